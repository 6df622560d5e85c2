import java.util.Random;

/** Makes texts of gorges; most of them are fine, some are spoilt on purpose. */
final class RandomText {
    private final Random random;
    private StringBuilder text = new StringBuilder();
    private int sounds = 0;

    RandomText(Random random) {
        this.random = random;
    }

    private int in(int from, int to) {
        return from + random.nextInt(to - from + 1);
    }

    private boolean chance(int percent) {
        return random.nextInt(100) < percent;
    }

    private RandomText put(Object token) {
        if (chance(3)) {
            text.append(chance(50) ? '\n' : ' ');
        }
        char last = text.length() == 0 ? ';' : text.charAt(text.length() - 1);
        char first = token.toString().charAt(0);
        boolean joins = Character.isDigit(last) && Character.isDigit(first)
                || Character.isLetter(last) && Character.isLetter(first);
        if (joins || last != ';' && first != ';' && chance(95)) {
            text.append(' ');
        }
        text.append(token);
        return this;
    }

    /** A gorge of some size; plain ones have walls that rivals() can find. */
    String gorge(boolean plain, int size) {
        text = new StringBuilder();
        sounds = in(1, Math.min(8, 1 + size));
        for (int i = 0; i < sounds; i++) {
            put("sound").put(chance(70) ? in(30, 99) : in(1, 99)).put(in(0, chance(50) ? 1 : 3)).put(";");
        }
        int share = in(20, 100);
        int walls = in(0, plain ? 3 : Math.min(6, 1 + size));
        for (int i = 0; i < walls; i++) {
            wall(plain, share);
        }
        if (chance(70)) {
            put("mask").put(chance(80) ? in(1, 30) : in(1, 99)).put(chance(40) ? 0 : in(0, 9));
            put(in(0, 99)).put(";");
        }
        if (chance(50)) {
            put("straight").put(in(0, 40)).put(in(0, 40)).put(";");
        }
        airs(plain);
        for (int i = in(0, size); i > 0 && sounds > 1; i--) {
            int one = in(0, sounds - 1);
            put("sweet").put(one).put((one + in(1, sounds - 1)) % sounds).put(";");
        }
        verses(size);
        return text.length() > 700 ? "sound 50 0;" : text.toString();
    }

    private void wall(boolean plain, int share) {
        int most = chance(60) ? 9 : plain ? 20 : 40;
        put("wall").put(in(1, most)).put(in(1, 40)).put(in(1, 40)).put(plain ? share : in(chance(70) ? 40 : 0, 100));
        if (!plain && chance(40)) {
            put("swallows");
            int sort = in(0, 3);
            for (int i = in(1, chance(70) ? 1 : 4); i > 0; i--) {
                put((sort + i) % 4);
            }
        }
        if (!plain && chance(40)) {
            put("again").put(in(1, 3));
        }
        put(";");
    }

    private void airs(boolean plain) {
        int first = in(0, 23);
        for (int i = in(0, 3); i > 0; i--) {
            int hour = (first + i * 5) % 24;
            if (!plain || hour != 12) {
                put("air").put(hour).put(in(chance(70) ? 60 : 0, 100)).put(";");
            }
        }
        if (!plain && chance(30) && text.indexOf("air") < 0) {
            put("air").put(12).put(in(50, 100)).put(";");
        }
    }

    private void verses(int size) {
        int kinds = in(1, chance(60) ? 2 : 4);
        for (int i = in(0, Math.min(8, 2 + size)); i > 0; i--) {
            put("word").put(in(0, kinds - 1));
            for (int k = in(1, chance(70) ? 2 : 4); k > 0; k--) {
                put(in(0, sounds - 1));
            }
            put(";");
        }
        for (int i = in(0, Math.min(6, 1 + size)); i > 0; i--) {
            put("form");
            for (int k = in(1, size > 4 ? 2 : 3); k > 0; k--) {
                put(in(0, kinds - 1));
            }
            put(";");
        }
    }

    /** One place of a text made another. */
    String spoil(String fine) {
        String[] bits = {";", " ", "\n", "0", "9", "12345", "00001", "3", "4", "x", "sound 5 0;", "wall 1 1 1 50;",
            "word 0 0;", "form 0;", "mask 1 1 1;", "straight 1 1;", "air 5 5;", "sweet 0 1;", "sweet 0 0;", "again 2",
            "again", "swallows 0", "swallows 1 1", "\t", "\u00e9", "\0", "A", "-", "101", "41", "100", "24", "8", "7"};
        String bit = bits[random.nextInt(bits.length)];
        int from = random.nextInt(fine.length() + 1);
        if (chance(50)) {
            // between two lines, where a whole line more may be one too many
            from = fine.indexOf(';', from) + 1;
        }
        int to = chance(70) ? from : Math.min(fine.length(), from + in(1, 3));
        String spoilt = fine.substring(0, from) + bit + fine.substring(to);
        if (chance(15)) {
            spoilt = spoilt.substring(0, random.nextInt(spoilt.length() + 1));
        }
        return spoilt.length() > 700 ? fine : spoilt;
    }
}
