import java.util.NoSuchElementException;

/** The edges of a round (part 4, promises 17 and 18). */
public final class RoundEdgesTest {
    private static final Check CHECK = new Check();
    private static final String TWO = "sound 50 0;sound 50 1;";

    public static void main(String[] args) {
        ticksOfTheRow();
        lengthOfTheRow();
        soundsOfTheRow();
        emptyRow();
        fullRow();
        restsAheadOfTheFirst();
        clashOnARest();
        restsOnBothSides();
        restsOfAFullRow();
        overAndOver();
        leastOnBothSides();
        sweetCouples();
        eightSounds();
        earZeroAtNoon();
        whats();
        CHECK.end();
    }

    private static EchoGorge sung(String text, int... row) {
        EchoGorge x = Check.made(text);
        for (int tick = 0; tick < row.length; tick++) {
            x.sing(tick, row[tick]);
        }
        return x;
    }

    private static void round(String what, EchoGorge x, int clashes, int rests, int length) {
        CHECK.due(what + ": clashes", x.round(0), clashes);
        CHECK.due(what + ": rests", x.round(1), rests);
        CHECK.due(what + ": length", x.round(2), length);
    }

    private static void ticksOfTheRow() {
        EchoGorge x = Check.made(TWO);
        CHECK.due("the first tick", x.sing(0, 0), 1);
        CHECK.due("the last tick", x.sing(15, 0), 16);
        for (int tick : new int[] {-1, 16, Integer.MIN_VALUE, Integer.MAX_VALUE}) {
            for (int sound = -2; sound < 3; sound++) {
                int s = sound;
                CHECK.dueThrow("sing(" + tick + ", " + sound + ")", NoSuchElementException.class, () -> x.sing(tick, s));
            }
        }
        round("as it was", x, 0, 0, 16);
    }

    private static void lengthOfTheRow() {
        for (int tick = 0; tick < 16; tick++) {
            EchoGorge x = Check.made(TWO);
            CHECK.due("a sound at " + tick + " alone", x.sing(tick, 1), tick + 1);
            CHECK.due("its length", x.round(2), tick + 1);
            EchoGorge y = Check.made(TWO);
            CHECK.due("a rest at " + tick + " alone", y.sing(tick, EchoGorge.NONE), tick + 1);
            CHECK.due("its length", y.round(2), tick + 1);
            CHECK.due("a sound ahead of it", y.sing(0, 1), tick + 1);
        }
        EchoGorge z = Check.made(TWO);
        CHECK.due("tick 4", z.sing(4, 0), 5);
        CHECK.due("tick 2", z.sing(2, 0), 5);
        CHECK.due("tick 4 becomes a rest", z.sing(4, EchoGorge.NONE), 5);
        CHECK.due("tick 5", z.sing(5, EchoGorge.NONE), 6);
        CHECK.due("its length", z.round(2), 6);
    }

    private static void soundsOfTheRow() {
        EchoGorge x = Check.made(TWO);
        for (int sound : new int[] {-2, 2, 8, Integer.MIN_VALUE, Integer.MAX_VALUE}) {
            CHECK.dueThrow("sing(0, " + sound + ")", NoSuchElementException.class, () -> x.sing(0, sound));
            CHECK.dueThrow("sing(15, " + sound + ")", NoSuchElementException.class, () -> x.sing(15, sound));
        }
        round("nothing came", x, 0, 0, 0);
        CHECK.due("a rest", x.sing(0, EchoGorge.NONE), 1);
        CHECK.due("the first sound", x.sing(1, 0), 2);
        CHECK.due("the last sound", x.sing(2, 1), 3);
        EchoGorge none = new EchoGorge();
        CHECK.dueThrow("no sounds", NoSuchElementException.class, () -> none.sing(0, 0));
        CHECK.due("a rest can be sung without sounds", none.sing(9, EchoGorge.NONE), 10);
        round("rests alone", none, 0, 0, 10);
        // a tick becomes what was sung last
        EchoGorge y = sung(TWO + "wall 1 9 9 50;", 0, 1, -1);
        CHECK.due("a clash", y.round(0), 1);
        y.sing(1, 0);
        CHECK.due("of one sound none", y.round(0), 0);
        y.sing(1, 1);
        y.sing(0, EchoGorge.NONE);
        CHECK.due("of a rest none", y.round(0), 0);
    }

    private static void emptyRow() {
        round("new", new EchoGorge(), 0, 0, 0);
        round("an empty row", Check.made(TWO + "wall 1 1 1 100 again 3;"), 0, 0, 0);
    }

    private static void fullRow() {
        int[] row = new int[16];
        for (int tick = 0; tick < 16; tick++) {
            row[tick] = tick % 2;
        }
        round("each falls on the other", sung(TWO + "wall 1 9 9 100;", row), 16, EchoGorge.NONE, 16);
        round("each falls on itself", sung(TWO + "wall 2 9 9 100;", row), 0, 0, 16);
        round("round about", sung(TWO + "wall 16 9 9 100;", row), 0, 0, 16);
        round("no wall", sung(TWO, row), 0, 0, 16);
    }

    private static void restsAheadOfTheFirst() {
        EchoGorge x = Check.made(TWO + "wall 1 9 9 100;wall 2 9 9 100;wall 3 9 9 100;");
        CHECK.due("a sound at 5 alone", x.sing(5, 1), 6);
        round("ticks that were not told are rests", x, 0, 0, 6);
        x.sing(0, EchoGorge.NONE);
        round("one of them is told a rest", x, 0, 0, 6);
    }

    /** 0 at tick 0 by 2 and 1 at tick 1 by 1 come at tick 2, which is a rest or tick 0 again. */
    private static void clashOnARest() {
        String text = TWO + "wall 2 9 9 50 swallows 1;wall 1 9 9 50 swallows 0;";
        round("on tick 0 again", sung(text, 0, 1), 1, EchoGorge.NONE, 2);
        round("on a rest of the row", sung(text, 0, 1, -1), 1, EchoGorge.NONE, 3);
        round("on the row's last rest but one", sung(text, 0, 1, -1, -1), 1, EchoGorge.NONE, 4);
    }

    /** 0 at tick 0, 1 at tick 1: a delay of d spoils a length if d is 1 more or 1 less than a multiple of it. */
    private static void restsOnBothSides() {
        round("none", sung(TWO + "wall 2 9 9 50;", 0, 1), 0, 0, 2);
        round("one", sung(TWO + "wall 3 9 9 50;", 0, 1), 2, 1, 2);
        round("three", sung(TWO + "wall 17 9 9 50;", 0, 1), 2, 3, 2);
        // no two of 0, 4, 25, 33 may be next to each other round the length: they are up to 17; 0, 4, 27, 35 up to 18
        round("sixteen", sung(TWO + "wall 4 9 9 50;wall 25 9 9 50;wall 33 9 9 50;", 0, 1), 2, 16, 2);
        round("seventeen", sung(TWO + "wall 4 9 9 50;wall 27 9 9 50;wall 35 9 9 50;", 0, 1), 2, EchoGorge.NONE, 2);
        round("no length helps", sung(TWO + "wall 1 9 9 50;", 0, 1), 2, EchoGorge.NONE, 2);
        // rests that the row has at its end are its own
        round("the one is told", sung(TWO + "wall 3 9 9 50;", 0, 1, -1), 0, 0, 3);
    }

    /** 0 fifteen times, then 1, which is swallowed: a delay spoils a length that leaves 1 to 15 of it. */
    private static void restsOfAFullRow() {
        int[] row = {0, 0, 0, 0, 0, 0, 0, 0, 0, 0, 0, 0, 0, 0, 0, 1};
        round("none", sung(TWO + "wall 16 9 9 50 swallows 1;", row), 0, 0, 16);
        round("one", sung(TWO + "wall 17 9 9 50 swallows 1;", row), 1, 1, 16);
        round("six", sung(TWO + "wall 22 9 9 50 swallows 1;", row), 1, 6, 16);
        round("fifteen", sung(TWO + "wall 31 9 9 50 swallows 1;", row), 1, 15, 16);
        // 32 leaves 0 of 16, which 31 spoils
        round("sixteen", sung(TWO + "wall 31 9 9 50 swallows 1;wall 32 9 9 50 swallows 1;", row), 1, 16, 16);
        // 33 leaves 1 of 32
        round("seventeen", sung(TWO + "wall 31 9 9 50 swallows 1;wall 33 9 9 50 swallows 1;", row), 1, EchoGorge.NONE, 16);
    }

    private static void overAndOver() {
        // returns by 40, 80 and 120, many times round a row of 7: 5, 3 and 1 of it
        String text = TWO + "wall 40 9 9 100 swallows 1 again 3;";
        for (int tick = 1; tick < 7; tick++) {
            EchoGorge x = Check.made(text);
            x.sing(6, EchoGorge.NONE);
            x.sing(0, 0);
            x.sing(tick, 1);
            CHECK.due("by 40, 80, 120 on tick " + tick, x.round(0), tick % 2);
        }
        // a row of one tick is heard with all its own returns, which is no clash
        round("one tick", sung(TWO + "wall 1 9 9 100 again 3;wall 40 9 9 100 again 3;", 0), 0, 0, 1);
        // the first time through is like all others: 1 at tick 3 comes on tick 0
        round("from ever on", sung(TWO + "wall 1 9 9 50 swallows 0;", 0, -1, -1, 1), 1, 1, 4);
    }

    private static void leastOnBothSides() {
        for (int least = 24; least <= 26; least++) {
            round("least " + least, sung(TWO + "wall 1 9 9 50 swallows 1;mask " + least + " 0 0;", 0, 1, -1), least <= 25 ? 1 : 0,
                    least <= 25 ? EchoGorge.NONE : 0, 3);
        }
        // the tick's own sound must be as loud too
        round("the quiet one below", sung("sound 9 0;sound 50 1;wall 1 9 9 50 swallows 0;mask 10 0 0;", 1, 0, -1), 0, 0, 3);
        round("the quiet one just as loud", sung("sound 10 0;sound 50 1;wall 1 9 9 50 swallows 0;mask 10 0 0;", 1, 0, -1), 1,
                EchoGorge.NONE, 3);
        // returns of one sound come together, also from other times through: 12 each by 1, 4 and 7 in a row of 3
        String text = "sound 50 0;sound 50 1;wall 1 9 9 25 swallows 1;wall 4 9 9 25 swallows 1;wall 7 9 9 25 swallows 1;";
        CHECK.due("36 together", sung(text + "mask 36 0 0;", 0, 1, -1).round(0), 1);
        CHECK.due("no more", sung(text + "mask 37 0 0;", 0, 1, -1).round(0), 0);
        CHECK.due("apart with a rest: 24 at most", sung(text + "mask 25 0 0;", 0, 1, -1).round(1), 1);
        // what is quieter, or masked in hearing, clashes all the same
        round("no mask", sung("sound 99 0;sound 20 1;wall 1 9 9 50 swallows 1;mask 10 9 0;", 0, 1, -1), 1, EchoGorge.NONE, 3);
    }

    private static void sweetCouples() {
        String text = "sound 50 0;".repeat(8) + "wall 1 9 9 50;";
        round("not sweet", sung(text, 0, 7, -1), 1, EchoGorge.NONE, 3);
        round("sweet", sung(text + "sweet 0 7;", 0, 7, -1), 0, 0, 3);
        round("sweet, told the other way", sung(text + "sweet 7 0;", 0, 7, -1), 0, 0, 3);
        round("sweet, sung the other way", sung(text + "sweet 0 7;", 7, 0, -1), 0, 0, 3);
        round("others are sweet", sung(text + "sweet 0 6;sweet 1 7;sweet 5 6;", 0, 7, -1), 1, EchoGorge.NONE, 3);
        // of three at once each couple must be sweet: 0, 1 and 2 come together at tick 2
        String three = "sound 50 0;sound 50 0;sound 50 0;wall 1 9 9 50;wall 2 9 9 50;sweet 0 1;sweet 1 2;";
        round("0 and 2 are not", sung(three, 0, 1, 2, -1, -1), 1, EchoGorge.NONE, 5);
        round("all are", sung(three + "sweet 2 0;", 0, 1, 2, -1, -1), 0, 0, 5);
        // one tick is one clash, however many couples clash
        round("one clash a tick", sung("sound 50 0;sound 50 0;sound 50 0;wall 1 9 9 50;wall 2 9 9 50;", 0, 1, 2, -1, -1), 3,
                EchoGorge.NONE, 5);
    }

    private static void eightSounds() {
        String text = "sound 50 0;".repeat(8);
        int[] row = {0, 1, 2, 3, 4, 5, 6, 7};
        round("eight, no wall", sung(text, row), 0, 0, 8);
        round("eight, a wall", sung(text + "wall 8 9 9 50;", row), 0, 0, 8);
        round("eight, a wall next to it", sung(text + "wall 9 9 9 50;", row), 8, 1, 8);
    }

    private static void earZeroAtNoon() {
        // by the delays to ears 1 and 2, their straight ways, or another hour's air there would be no clash, or one
        round("ear 0", sung(TWO + "wall 1 2 2 50;straight 1 1;", 0, 1, -1), 1, EchoGorge.NONE, 3);
        round("not ears 1, 2", sung(TWO + "wall 3 1 1 50;straight 1 1;", 0, 1, -1), 0, 0, 3);
        round("air at noon", sung(TWO + "wall 1 1 1 50;mask 10 0 0;air 12 40;", 0, 1, -1), 1, EchoGorge.NONE, 3);
        round("thinner", sung(TWO + "wall 1 1 1 50;mask 10 0 0;air 12 39;", 0, 1, -1), 0, 0, 3);
        round("of other hours", sung(TWO + "wall 1 1 1 50;mask 10 0 0;air 11 0;air 13 0;air 0 0;", 0, 1, -1), 1, EchoGorge.NONE, 3);
        EchoGorge x = sung(TWO + "wall 3 1 1 50;straight 1 1;", 0, 1, -1);
        x.say(1, 0);
        CHECK.due("ear 1 heard ahead", x.heard(1, 12, 1), 1);
        round("ear 0 all the same", x, 0, 0, 3);
    }

    private static void whats() {
        EchoGorge x = sung(TWO, 0, 1);
        for (EchoGorge one : new EchoGorge[] {x, new EchoGorge()}) {
            for (int what : new int[] {-1, 3, Integer.MIN_VALUE, Integer.MAX_VALUE}) {
                CHECK.dueThrow("round(" + what + ")", NoSuchElementException.class, () -> one.round(what));
            }
        }
        round("as it was", x, 0, 0, 2);
        CHECK.due("no status", x.count(7) + x.count(8) + x.count(9), 0);
    }
}
