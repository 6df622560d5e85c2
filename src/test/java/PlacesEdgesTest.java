import java.util.NoSuchElementException;

/** The edges of places and of a code (part 6, promises 23 to 26). */
public final class PlacesEdgesTest {
    private static final Check CHECK = new Check();
    private static final int NONE = EchoGorge.NONE;

    public static void main(String[] args) {
        placesOnBothSides();
        refusedStands();
        atFirst();
        everyDistance();
        laterAndSooner();
        indexOfPlaces();
        stepsOnBothSides();
        couples();
        gapsOnBothSides();
        allGapsAndOne();
        delaysOnBothSides();
        codeHeardOrNot();
        maskedByTheClaps();
        fewestSumThenBits();
        soundsByTurns();
        codeRefused();
        CHECK.end();
    }

    private static void placesOnBothSides() {
        for (int ear = 0; ear < 3; ear++) {
            for (int px : new int[] {0, 1, 29, 30}) {
                for (int py : new int[] {0, 1, 29, 30}) {
                    placeOnBothSides(ear, px, py);
                }
            }
        }
    }

    private static void placeOnBothSides(int ear, int px, int py) {
        EchoGorge x = new EchoGorge();
        CHECK.due("ear " + ear + " at " + px + ", " + py, x.stand(ear, px, py), true);
        for (int wrong : new int[] {-1, 31, Integer.MIN_VALUE, Integer.MAX_VALUE}) {
            CHECK.due("no x of " + wrong, x.stand(ear, wrong, py), false);
            CHECK.due("no y of " + wrong, x.stand(ear, px, wrong), false);
            CHECK.due("neither", x.stand(ear, wrong, wrong), false);
        }
        CHECK.due("it is no status", x.count(7) + x.count(8) + x.count(9), 0);
        stillAt(x, ear, px, py);
    }

    /** The others being at 0, 0, a clap where the ear stands comes to them by how far that is from 0, 0. */
    private static void stillAt(EchoGorge x, int ear, int px, int py) {
        int far = ticks(px, py);
        int a = ear == 1 ? -far : ear == 0 ? far : 0;
        int b = ear == 2 ? -far : ear == 0 ? far : 0;
        boolean there = false;
        int many = x.matching(a, b, NONE);
        for (int i = 0; i < many && !there; i++) {
            there = x.matching(a, b, i) == 31 * py + px;
        }
        CHECK.due("ear " + ear + " at " + px + ", " + py, there, true);
    }

    /** The root of 10,000 by the square, cut down, by 100, cut down. */
    private static int ticks(int x, int y) {
        int square = 10_000 * (x * x + y * y);
        int root = 0;
        while ((root + 1) * (root + 1) <= square) {
            root++;
        }
        return root / 100;
    }

    private static void refusedStands() {
        EchoGorge x = new EchoGorge();
        x.stand(0, 30, 30);
        for (int ear : new int[] {-1, 3, Integer.MIN_VALUE, Integer.MAX_VALUE}) {
            CHECK.dueThrow("ear " + ear, NoSuchElementException.class, () -> x.stand(ear, 0, 0));
            CHECK.dueThrow("ear " + ear + " at no place", NoSuchElementException.class, () -> x.stand(ear, -1, 31));
        }
        CHECK.due("all as it was", x.matching(42, 42, 0), 960);
    }

    private static void atFirst() {
        EchoGorge x = new EchoGorge();
        CHECK.due("all ears at 0, 0", x.matching(0, 0, NONE), 961);
        x.stand(1, 3, 4);
        CHECK.due("ear 1 at 3, 4: 5 later from 0, 0", x.matching(5, 0, 0), 0);
        CHECK.due("and 5 sooner there", x.matching(-5, 0, 0), 31 * 4 + 3);
        x.stand(1, 0, 0);
        CHECK.due("back again", x.matching(0, 0, NONE), 961);
    }

    /** Ear 0 at 0, 0 and the other far: from 0, 0 a clap comes so much later to it, and no less, no more. */
    private static void everyDistance() {
        for (int px = 0; px <= 30; px++) {
            EchoGorge x = new EchoGorge();
            for (int py = 0; py <= 30; py++) {
                int ear = 1 + (px + py) % 2;
                x.stand(1, 0, 0);
                x.stand(2, 0, 0);
                x.stand(ear, px, py);
                int far = ticks(px, py);
                CHECK.due("from 0, 0 to " + px + ", " + py, first(x, ear, far), "0");
                CHECK.due("no less", first(x, ear, far - 1).equals("0"), false);
                CHECK.due("no more", first(x, ear, far + 1).equals("0"), false);
            }
        }
    }

    private static String first(EchoGorge x, int ear, int later) {
        return (String) Check.outcome(() -> ear == 1 ? x.matching(later, 0, 0) : x.matching(0, later, 0));
    }

    private static void laterAndSooner() {
        EchoGorge x = new EchoGorge();
        x.stand(1, 30, 30);
        x.stand(2, 30, 30);
        // from 0, 0 the root of 1800 is 42.4
        CHECK.due("the most there is", x.matching(42, 42, NONE), 1);
        CHECK.due("at 0, 0", x.matching(42, 42, 0), 0);
        CHECK.due("the least there is", x.matching(-42, -42, NONE), 1);
        CHECK.due("at 30, 30", x.matching(-42, -42, 0), 960);
        int[][] none = {{43, 43}, {-43, -43}, {42, 41}, {41, 42}, {42, -42}, {Integer.MAX_VALUE, Integer.MAX_VALUE},
            {Integer.MIN_VALUE, Integer.MIN_VALUE}, {Integer.MIN_VALUE, Integer.MAX_VALUE}, {0, Integer.MIN_VALUE}};
        for (int[] n : none) {
            CHECK.due("none by " + n[0] + " and " + n[1], x.matching(n[0], n[1], NONE), 0);
            CHECK.dueThrow("no first of none", NoSuchElementException.class, () -> x.matching(n[0], n[1], 0));
            CHECK.due("no couples", x.moved(n[0], n[1], n[0], n[1], 60), 0);
        }
        // 0 later to both: about the middle line
        int middle = 0;
        for (int place = 0; place < 961; place++) {
            int px = place % 31;
            int py = place / 31;
            middle += ticks(px, py) == ticks(30 - px, 30 - py) ? 1 : 0;
        }
        CHECK.due("as late", x.matching(0, 0, NONE), middle);
    }

    private static void indexOfPlaces() {
        EchoGorge x = new EchoGorge();
        for (int i : new int[] {0, 1, 30, 31, 32, 929, 930, 959, 960}) {
            CHECK.due("y from 0 on, then x: the place " + i, x.matching(0, 0, i), i);
        }
        for (int i : new int[] {961, -2, Integer.MIN_VALUE, Integer.MAX_VALUE}) {
            CHECK.dueThrow("no place " + i, NoSuchElementException.class, () -> x.matching(0, 0, i));
        }
        // one place alone
        x.stand(0, 30, 0);
        CHECK.due("how many", x.matching(30, 30, NONE) > 0, true);
        int many = x.matching(30, 30, NONE);
        int last = -1;
        for (int i = 0; i < many; i++) {
            int place = x.matching(30, 30, i);
            CHECK.due("rising", place > last, true);
            CHECK.due("it matches", ticks(place % 31, place / 31) - ticks(30 - place % 31, place / 31), 30);
            last = place;
        }
        CHECK.dueThrow("none behind the last", NoSuchElementException.class, () -> x.matching(30, 30, many));
        CHECK.due("by 31 by y and x", x.matching(30, 30, 0), 30);
    }

    private static void stepsOnBothSides() {
        EchoGorge x = new EchoGorge();
        for (int steps : new int[] {-1, 61, Integer.MIN_VALUE, Integer.MAX_VALUE}) {
            CHECK.dueThrow("steps " + steps, IllegalArgumentException.class, () -> x.moved(0, 0, 0, 0, steps));
            CHECK.dueThrow("steps " + steps + " of none", IllegalArgumentException.class, () -> x.moved(99, 0, 0, 99, steps));
        }
        CHECK.due("0: each with itself", x.moved(0, 0, 0, 0, 0), 961);
        CHECK.due("60: each with each", x.moved(0, 0, 0, 0, 60), 961 * 961);
        CHECK.due("59: but corners, two and two", x.moved(0, 0, 0, 0, 59), 961 * 961 - 4);
        CHECK.due("58: and those next to them", x.moved(0, 0, 0, 0, 58), 961 * 961 - 4 - 16);
        CHECK.due("1: and with the next ones", x.moved(0, 0, 0, 0, 1), 961 + 4 * 31 * 30);
        CHECK.due("2", x.moved(0, 0, 0, 0, 2), 961 + 4 * 31 * 30 + 4 * 31 * 29 + 4 * 30 * 30);
    }

    private static void couples() {
        EchoGorge x = new EchoGorge();
        x.stand(0, 15, 15);
        x.stand(1, 0, 0);
        x.stand(2, 30, 30);
        // a clap where ear 1 or 2 stands comes 21 sooner to it, 21 later to the other
        CHECK.due("one place", x.matching(-21, 21, NONE), 1);
        CHECK.due("the other", x.matching(21, -21, NONE), 1);
        CHECK.due("60 steps", x.moved(-21, 21, 21, -21, 60), 1);
        CHECK.due("not in 59", x.moved(-21, 21, 21, -21, 59), 0);
        CHECK.due("the other way", x.moved(21, -21, -21, 21, 60), 1);
        CHECK.due("not in 59", x.moved(21, -21, -21, 21, 59), 0);
        CHECK.due("the same place", x.moved(21, -21, 21, -21, 0), 1);
        CHECK.due("of none and one", x.moved(40, 40, 21, -21, 60), 0);
        CHECK.due("of one and none", x.moved(21, -21, 40, 40, 60), 0);
        // slow: all couples, each place with each
        for (int steps : new int[] {0, 1, 7, 30, 60}) {
            CHECK.due("as many as by going through, " + steps, x.moved(1, 1, 2, 0, steps), slowly(1, 1, 2, 0, steps));
            CHECK.due("as many as by going through, " + steps, x.moved(0, 0, 0, 0, steps), slowly(0, 0, 0, 0, steps));
        }
    }

    private static boolean matches(int place, int a, int b) {
        int px = place % 31;
        int py = place / 31;
        int middle = ticks(Math.abs(px - 15), Math.abs(py - 15));
        return ticks(px, py) - middle == a && ticks(30 - px, 30 - py) - middle == b;
    }

    private static int slowly(int a, int b, int c, int d, int steps) {
        int many = 0;
        for (int one = 0; one < 961; one++) {
            for (int other = 0; matches(one, a, b) && other < 961; other++) {
                int apart = Math.abs(one % 31 - other % 31) + Math.abs(one / 31 - other / 31);
                many += apart <= steps && matches(other, c, d) ? 1 : 0;
            }
        }
        return many;
    }

    private static int gap(int gap) {
        return 1 << gap - 2;
    }

    private static void code(String what, EchoGorge x, int sound, int many, int... gaps) {
        int bits = 0;
        for (int gap : gaps) {
            bits |= gap(gap);
        }
        CHECK.due(what + ": how many", x.code(sound, 0), many);
        CHECK.due(what + ": bits", x.code(sound, 1), bits);
        CHECK.due(what + ": as many bits", many, gaps.length);
    }

    private static final int[] ALL = {2, 3, 4, 5, 6, 7, 8, 9, 10, 11, 12, 13, 14, 15, 16, 17};

    private static void gapsOnBothSides() {
        EchoGorge x = Check.made("sound 50 0;wall 15 9 9 100;");
        // 2 and 17 by 15; 15 is heard by all
        CHECK.due("the least gap", x.code(0, 2), gap(17) | gap(15));
        CHECK.due("the most gap", x.code(0, 17), gap(2) | gap(15));
        CHECK.due("next to it", x.code(0, 16), gap(15));
        CHECK.due("that of all", x.code(0, 15), 65535 & ~gap(15));
        code("one of 2 and 17, not 15", x, 0, 14, 2, 3, 4, 5, 6, 7, 8, 9, 10, 11, 12, 13, 14, 16);
    }

    private static void allGapsAndOne() {
        code("no wall", Check.made("sound 50 0;"), 0, 16, ALL);
        // 1 to 8, 10 to 12, 14 and 15 by walls: gaps of that are heard by all, of 9, 13, 16, 17 each by each
        EchoGorge x = Check.made("sound 50 0;wall 1 9 9 100 again 3;wall 4 9 9 100 again 3;wall 5 9 9 100 again 3;"
                + "wall 7 9 9 100 again 3;wall 6 9 9 100 again 3;wall 11 9 9 100;");
        code("each falls together with each", x, 0, 1, 2);
        for (int gap : ALL) {
            CHECK.due("but not with itself", x.code(0, gap), 65535 & ~gap(gap));
        }
        code("all but two", Check.made("sound 50 0;wall 16 9 9 100;wall 17 9 9 100;"), 0, 14, 2, 3, 4, 5, 6, 7, 8, 9, 10, 11, 12, 13,
                14, 15);
    }

    private static void delaysOnBothSides() {
        for (int delay = 1; delay <= 40; delay++) {
            EchoGorge x = Check.made("sound 50 0;wall " + delay + " 9 9 100;");
            for (int gap : ALL) {
                int want = 0;
                for (int other : ALL) {
                    boolean together = other == gap + delay || gap == other + delay || other == delay || gap == delay;
                    want |= together && other != gap ? gap(other) : 0;
                }
                CHECK.due("delay " + delay + ", gap " + gap, x.code(0, gap), want);
            }
        }
        // the second and the third return
        EchoGorge y = Check.made("sound 50 0;wall 6 9 9 100 again 3;");
        CHECK.due("by 6 and 12, and 6 and 12 themselves", y.code(0, 2), gap(8) | gap(14) | gap(6) | gap(12));
        EchoGorge z = Check.made("sound 50 0;wall 5 9 9 100 again 3;");
        CHECK.due("by 5, 10 and 15", z.code(0, 2), gap(7) | gap(12) | gap(17) | gap(5) | gap(10) | gap(15));
        EchoGorge w = Check.made("sound 50 0;wall 5 9 9 100 again 2;");
        CHECK.due("by 5 and 10 alone", w.code(0, 2), gap(7) | gap(12) | gap(5) | gap(10));
    }

    private static void codeHeardOrNot() {
        String text = "sound 50 0;wall 4 9 9 50;";
        EchoGorge x = Check.made(text + "mask 25 0 0;");
        CHECK.due("just the least", x.code(0, 2), gap(4) | gap(6));
        code("one below", Check.made(text + "mask 26 0 0;"), 0, 16, ALL);
        code("the claps themselves too", Check.made(text + "mask 51 0 0;"), 0, 16, ALL);
        CHECK.due("air at noon", Check.made(text + "mask 10 0 0;air 12 40;").code(0, 2), gap(4) | gap(6));
        code("thinner air at noon", Check.made(text + "mask 10 0 0;air 12 39;air 11 100;"), 0, 16, ALL);
        code("swallowed", Check.made("sound 50 2;wall 4 9 9 100 swallows 2;"), 0, 16, ALL);
        CHECK.due("another sort", Check.made("sound 50 2;wall 4 9 9 100 swallows 0 1 3;").code(0, 2), gap(4) | gap(6));
        code("at ear 0", Check.made("sound 50 0;wall 18 2 3 100;straight 5 5;"), 0, 16, ALL);
        EchoGorge y = Check.made("sound 50 0;wall 2 9 9 50;wall 6 9 9 50;mask 50 0 0;");
        // two returns together are 50: of gap 4 those at 6, by 2 from 4 and by 6 from 0
        CHECK.due("two returns together", y.code(0, 4), gap(6));
        CHECK.due("that is the other's", y.code(0, 6), gap(4));
        CHECK.due("none by 2", y.code(0, 2), 0);
    }

    private static void maskedByTheClaps() {
        // the first clap masks up to tick 3, the second three ticks behind the gap; 25 is masked by 50
        EchoGorge x = Check.made("sound 50 0;wall 3 9 9 50;mask 1 3 24;");
        code("all returns are masked", x, 0, 16, ALL);
        EchoGorge y = Check.made("sound 50 0;wall 3 9 9 50;mask 1 2 24;");
        // the first clap's return at 3 is masked by a second clap at 2 (in the window), not by one at 4 or later
        CHECK.due("3 is heard by all later gaps", y.code(0, 3), 65535 & ~gap(3) & ~gap(2));
        CHECK.due("2 and 5", y.code(0, 2) & gap(5), gap(5));
        EchoGorge z = Check.made("sound 50 0;wall 3 9 9 50;mask 1 3 25;");
        CHECK.due("within the margin", z.code(0, 3), 65535 & ~gap(3));
        // the first clap at tick 0 is in a window of 2 of tick 2, behind a window of 1
        code("masked by tick 0", Check.made("sound 50 0;wall 2 9 9 50;mask 1 2 0;"), 0, 16, ALL);
        CHECK.due("not masked by it", Check.made("sound 50 0;wall 2 9 9 50;mask 1 1 0;").code(0, 2), 65535 & ~gap(2));
    }

    private static void fewestSumThenBits() {
        // 9 10 11 12 13 14 15 have less bits and a greater sum
        code("the least sum", Check.made("sound 50 0;wall 7 9 9 60;wall 8 9 9 60 again 2;"), 0, 7, 2, 3, 4, 5, 6, 15, 17);
        // 7 8 9 10 11
        code("the least sum of five", Check.made("sound 50 0;wall 6 9 9 60;wall 12 9 9 60;wall 5 9 9 60;"), 0, 5, 2, 3, 4, 11, 13);
        // 2 5 7 12 14 17
        code("the least sum of six", Check.made("sound 50 0;wall 11 9 9 100 again 2;wall 4 9 9 100 again 2;"), 0, 6, 2, 3, 5, 12, 15,
                17);
        // 2 4 6 8 13 15 17 has the same sum
        code("then the least bits", Check.made("sound 50 0;wall 3 9 9 100;wall 10 9 9 100;"), 0, 7, 2, 6, 7, 8, 13, 14, 15);
        // another of the sum 76 has 17 in it, and 4 in place of 3
        code("the least bits once more", Check.made("sound 50 0;wall 8 9 9 100;wall 5 9 9 100;"), 0, 8, 2, 3, 6, 9, 12, 13, 15, 16);
        code("three alone", Check.made("sound 50 0;wall 9 9 9 100 again 2;wall 3 9 9 100 again 2;wall 2 9 9 100 again 2;"), 0, 3, 5,
                12, 13);
        // more gaps ahead of a less sum
        code("as many as can be", Check.made("sound 50 0;wall 2 9 9 100;"), 0, 8, 3, 4, 7, 8, 11, 12, 15, 16);
    }

    private static void soundsByTurns() {
        EchoGorge x = Check.made("sound 50 1;sound 50 0;sound 5 0;".repeat(2) + "sound 50 2;sound 50 0;wall 15 9 9 100 swallows 1 2;"
                + "mask 6 0 0;");
        for (int turn = 0; turn < 2; turn++) {
            for (int sound = 0; sound < 8; sound++) {
                boolean returns = sound == 1 || sound == 4 || sound == 7;
                CHECK.due("sound " + sound, x.code(sound, 0), returns ? 14 : 16);
                CHECK.due("sound " + sound + ", gap 2", x.code(sound, 2), returns ? gap(15) | gap(17) : 0);
            }
        }
        x.say(1, 2);
        x.tell(1);
        x.sing(0, 1);
        CHECK.due("of it alone", x.code(7, 16), gap(15));
    }

    private static void codeRefused() {
        EchoGorge x = Check.made("sound 50 0;sound 50 1;");
        for (int what : new int[] {-1, 18, Integer.MIN_VALUE, Integer.MAX_VALUE}) {
            CHECK.dueThrow("code(0, " + what + ")", NoSuchElementException.class, () -> x.code(0, what));
            CHECK.dueThrow("code(2, " + what + ")", NoSuchElementException.class, () -> x.code(2, what));
        }
        for (int sound : new int[] {-1, 2, 8, Integer.MIN_VALUE, Integer.MAX_VALUE}) {
            for (int what = 0; what < 18; what += 17) {
                int w = what;
                CHECK.dueThrow("code(" + sound + ", " + what + ")", NoSuchElementException.class, () -> x.code(sound, w));
            }
        }
        CHECK.dueThrow("no sounds", NoSuchElementException.class, () -> new EchoGorge().code(0, 0));
        CHECK.due("the last what", x.code(1, 17), 0);
        CHECK.due("it is no status", x.count(7) + x.count(8) + x.count(9), 0);
    }
}
