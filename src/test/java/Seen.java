/** What can be seen of an object, by calls that change nothing: one text to hold against another's. */
final class Seen {
    private final EchoGorge x;
    private final StringBuilder all = new StringBuilder();

    private Seen(EchoGorge x) {
        this.x = x;
    }

    /** The gorge and what is said, told, sung, and where the ears stand: some 200 calls at most. */
    static String of(EchoGorge x) {
        Seen seen = new Seen(x);
        seen.gorge();
        seen.said();
        seen.lines();
        seen.told();
        return seen.all.toString();
    }

    /** The tape's length, the latest fault's place, the status. */
    static String besides(EchoGorge x) {
        return "tape " + x.count(6) + " fault " + x.fault() + " status " + x.count(7) + " " + x.count(8) + " " + x.count(9);
    }

    private void put(Object answer) {
        all.append(answer).append(' ');
    }

    private void gorge() {
        for (int what : new int[] {0, 1, 2, 3, 4, 5, 10}) {
            put(x.count(what));
        }
        int walls = x.count(1);
        for (int wall = 0; wall < walls; wall++) {
            for (int what = 0; what < 6; what++) {
                put(x.wall(wall, what));
            }
        }
        int words = x.count(2);
        for (int word = 0; word < words; word++) {
            int length = x.word(word, 1);
            for (int what = 0; what < 2 + length; what++) {
                put(x.word(word, what));
            }
        }
        all.append('\n');
    }

    private void said() {
        for (int tick = 0; tick < 25; tick++) {
            put(x.heard(0, 12, tick));
        }
        for (int tick = 0; tick < 15; tick++) {
            put(x.heard(1, 5, tick));
            put(x.heard(2, 5, tick));
        }
        int sounds = x.count(0);
        for (int sound = 0; sound < sounds; sound++) {
            for (int tick = 0; tick < 6; tick++) {
                put(x.loud(0, 12, tick, sound));
            }
            int s = sound;
            put(Check.outcome(() -> x.code(s, 1)));
        }
        all.append('\n');
    }

    private void lines() {
        for (int hour = 5; hour <= 12; hour += 7) {
            for (int what = 0; what < 5; what++) {
                put(x.lines(hour, what));
            }
            put(x.lasts(hour));
            put(x.still(hour, 20));
            for (int i = -1; i < 2; i++) {
                int h = hour;
                int at = i;
                put(Check.outcome(() -> x.line(h, at, 0)));
                put(Check.outcome(() -> x.line(h, at, 1)));
            }
            int h = hour;
            put(Check.outcome(() -> x.without(h, 0)));
        }
        all.append('\n');
    }

    private void told() {
        for (int what = 0; what < 3; what++) {
            put(x.round(what));
            put(x.sayers(what));
        }
        for (int what = 0; what < 6; what++) {
            put(x.rivals(50, what));
        }
        put(x.matching(0, 0, -1));
        put(x.matching(3, 5, -1));
        put(x.matching(-2, 4, -1));
        put(x.moved(0, 0, 1, 1, 20));
        all.append('\n');
    }
}
