import java.util.NoSuchElementException;

/** The edges of what is told, of rivals and of sayers (part 5, promises 19 to 22). */
public final class ToldEdgesTest {
    private static final Check CHECK = new Check();
    private static final int ALL_SETS = 1 + 20 + 190 + 1140;
    private static final int ALL_DELAYS = (1 << 20) - 1;
    private static final int NONE = EchoGorge.NONE;

    public static void main(String[] args) {
        sixtyTicks();
        soundsToldOf();
        untellEdges();
        nothingSaidOrTold();
        noRivals();
        delaysOnBothSides();
        unlikeDelays();
        threeWalls();
        shareOnBothSides();
        ticksZeroToFiftyNine();
        behindWhatIsTold();
        wallsAreNotAsTheyAre();
        leastWindowMargin();
        firstOfAll();
        surelyAndPossibly();
        groupsOfTheWindow();
        groupsOfTheLeast();
        nextOfLikeOnes();
        manySharesByTurns();
        rivalsRefused();
        noSayers();
        fourteenTicks();
        sayersUpToTheEnd();
        fewestAndLeast();
        sayersByAir();
        whoWhats();
        CHECK.end();
    }

    private static void tellAt(EchoGorge x, int sound, int... ticks) {
        x.untell();
        int told = 0;
        for (int tick : ticks) {
            for (; told < tick; told++) {
                x.tell(NONE);
            }
            x.tell(sound);
            told++;
        }
    }

    private static void tellRow(EchoGorge x, int... row) {
        x.untell();
        for (int sound : row) {
            x.tell(sound);
        }
    }

    private static void rivals(String what, EchoGorge x, int share, int... want) {
        for (int i = 0; i < 6; i++) {
            CHECK.due(what + ": rivals(" + share + ", " + i + ")", x.rivals(share, i), want[i]);
        }
    }

    private static void none(String what, EchoGorge x, int share) {
        rivals(what, x, share, 0, 0, 0, NONE, NONE, 0);
    }

    /** The one rival, of so many delays, and that each sound tells it. */
    private static void one(String what, EchoGorge x, int share, int bits) {
        rivals(what, x, share, 1, bits, bits, bits, 0, 1);
    }

    private static void sayers(String what, EchoGorge x, int... want) {
        for (int i = 0; i < 3; i++) {
            CHECK.due(what + ": sayers(" + i + ")", x.sayers(i), want[i]);
        }
    }

    private static void sixtyTicks() {
        EchoGorge x = Check.made("sound 50 0;sound 40 0;");
        for (int tick = 0; tick < 59; tick++) {
            CHECK.due("tick " + tick, x.tell(tick % 3 - 1), tick + 1);
        }
        CHECK.due("the 60th", x.tell(1), 60);
        int refused = 0;
        for (int sound = -1; sound < 2; sound++) {
            CHECK.due("the 61st, " + sound, x.tell(sound), NONE);
            refused++;
            CHECK.due("status", x.count(9), refused);
            CHECK.due("so many are told", x.count(5), 60);
        }
        for (int sound : new int[] {-2, 2, 8, Integer.MIN_VALUE, Integer.MAX_VALUE}) {
            CHECK.dueThrow("no such sound " + sound, NoSuchElementException.class, () -> x.tell(sound));
        }
        CHECK.due("no status of that", x.count(9), 3);
        CHECK.due("nor other status", x.count(7) + x.count(8), 0);
        CHECK.due("all sixty", x.untell(), 60);
        CHECK.due("then there is room", x.tell(0), 1);
        CHECK.due("status stays", x.count(9), 3);
    }

    private static void soundsToldOf() {
        EchoGorge x = Check.made("sound 50 0;sound 40 0;");
        CHECK.due("nothing", x.tell(NONE), 1);
        CHECK.due("the first sound", x.tell(0), 2);
        CHECK.due("the last sound", x.tell(1), 3);
        for (int sound : new int[] {-2, 2, 8, Integer.MIN_VALUE, Integer.MAX_VALUE}) {
            CHECK.dueThrow("tell(" + sound + ")", NoSuchElementException.class, () -> x.tell(sound));
        }
        CHECK.due("nothing came of it", x.count(5) * 10 + x.count(9), 30);
        EchoGorge none = new EchoGorge();
        CHECK.dueThrow("no sounds", NoSuchElementException.class, () -> none.tell(0));
        CHECK.due("nothing can be told without sounds", none.tell(NONE), 1);
    }

    private static void untellEdges() {
        EchoGorge x = Check.made("sound 50 0;");
        CHECK.due("nothing told", x.untell(), 0);
        x.say(0, 0);
        x.sing(0, 0);
        x.stand(2, 9, 9);
        x.tell(NONE);
        CHECK.due("one tick of nothing", x.untell(), 1);
        CHECK.due("and again", x.untell(), 0);
        CHECK.due("the said stays", x.count(4), 1);
        CHECK.due("the round stays", x.round(2), 1);
        CHECK.due("the ears stay", x.matching(0, 0, NONE) < 961, true);
        // what was told ahead is not there under a later row
        tellAt(x, 0, 0, 1, 2);
        tellAt(x, NONE, 5);
        sayers("nothing told", x, 1, 0, 0);
        none("said and not told", x, 50);
        tellAt(x, 0, 0);
        rivals("the first tick alone", x, 1, ALL_SETS, 0, ALL_DELAYS, 0, 0, ALL_SETS);
    }

    private static void nothingSaidOrTold() {
        rivals("new", new EchoGorge(), 1, ALL_SETS, 0, ALL_DELAYS, 0, NONE, 0);
        rivals("new", new EchoGorge(), 100, ALL_SETS, 0, ALL_DELAYS, 0, NONE, 0);
        EchoGorge x = Check.made("sound 50 0;");
        rivals("nothing said", x, 50, ALL_SETS, 0, ALL_DELAYS, 0, 0, 1);
        for (int tick = 0; tick < 60; tick++) {
            x.tell(NONE);
        }
        rivals("sixty ticks of nothing", x, 50, ALL_SETS, 0, ALL_DELAYS, 0, 0, 1);
        sayers("sixty ticks of nothing", x, 1, 0, 0);
    }

    private static void noRivals() {
        EchoGorge x = Check.made("sound 50 0;sound 40 0;");
        tellAt(x, 0, 0);
        none("told and not said", x, 50);
        x.say(0, 0);
        tellAt(x, 0, 1);
        none("said at 0, told at 1", x, 50);
        tellAt(x, 1, 0);
        none("another sound", x, 50);
        x.untell();
        none("said and not told", x, 50);
        tellAt(x, 0, 0);
        one("said and told", x, 50, 0);
        tellAt(x, 0, 0, 5);
        x.say(1, 5);
        none("the louder one isn't heard at 5", x, 50);
    }

    private static void delaysOnBothSides() {
        EchoGorge x = Check.made("sound 50 0;");
        x.say(0, 0);
        for (int delay = 1; delay <= 20; delay++) {
            tellAt(x, 0, 0, delay);
            CHECK.due("a delay of " + delay, x.rivals(50, 0), 1);
            CHECK.due("surely", x.rivals(50, 1), 1 << delay - 1);
        }
        for (int delay = 21; delay <= 23; delay++) {
            tellAt(x, 0, 0, delay);
            CHECK.due("no delay of " + delay, x.rivals(50, 0), 0);
        }
        EchoGorge y = Check.made("sound 50 0;");
        y.say(0, 0);
        tellAt(y, 0, 0, 1, 20);
        one("the least and the most", y, 50, 1 | 1 << 19);
        tellAt(y, 0, 0, 18, 19, 20);
        one("the three most", y, 50, 7 << 17);
        tellAt(y, 0, 0, 1, 2, 3);
        one("the three least", y, 50, 7);
        tellAt(y, 0, 0, 1, 5, 9);
        one("a low one that is told first", y, 50, 1 | 1 << 4 | 1 << 8);
    }

    /** Two walls of one delay would give back twice as much. */
    private static void unlikeDelays() {
        EchoGorge x = Check.made("sound 50 0;mask 26 0 0;");
        x.say(0, 0);
        tellAt(x, 0, 0, 5);
        none("25 twice by one delay", x, 50);
        one("26 by one wall", x, 52, 1 << 4);
        // by two delays from two ticks they come together
        EchoGorge y = Check.made("sound 50 0;mask 26 0 0;");
        y.say(0, 0);
        y.say(0, 1);
        tellAt(y, 0, 0, 1, 21);
        int pair = 1 << 19 | 1 << 18;
        CHECK.due("20 from 1, and none from 0", y.rivals(50, 0), 0);
        tellAt(y, 0, 0, 1, 20);
        // 20 from 0 and 19 from 1, and any third wall but one that makes a pair with them
        CHECK.due("two delays", y.rivals(50, 3), pair);
        CHECK.due("surely", y.rivals(50, 1), pair);
        CHECK.due("and a third but 18, which would pair with 19", y.rivals(50, 0), 1 + 17);
    }

    private static void threeWalls() {
        EchoGorge x = Check.made("sound 50 0;");
        x.say(0, 0);
        tellAt(x, 0, 0, 4, 8, 12);
        one("three", x, 50, 1 << 3 | 1 << 7 | 1 << 11);
        tellAt(x, 0, 0, 4, 8, 12, 16);
        none("four", x, 50);
        tellAt(x, 0, 0, 4, 8);
        one("two", x, 50, 1 << 3 | 1 << 7);
        tellAt(x, 0, 0, 4);
        one("one", x, 50, 1 << 3);
        tellAt(x, 0, 0);
        one("none", x, 50, 0);
    }

    private static void shareOnBothSides() {
        EchoGorge x = Check.made("sound 99 0;sound 10 0;");
        for (int share : new int[] {0, 101, -1, 1000, Integer.MIN_VALUE, Integer.MAX_VALUE}) {
            for (int what = 0; what < 6; what++) {
                int w = what;
                CHECK.dueThrow("share " + share, IllegalArgumentException.class, () -> x.rivals(share, w));
            }
            CHECK.dueThrow("what ahead of share " + share, NoSuchElementException.class, () -> x.rivals(share, 6));
            CHECK.dueThrow("what ahead of share " + share, NoSuchElementException.class, () -> x.rivals(share, -1));
        }
        x.say(0, 0);
        tellAt(x, 0, 0);
        // 99 by 1 is nothing, by 2 is 1
        rivals("the least share", x, 1, ALL_SETS, 0, ALL_DELAYS, 0, 0, ALL_SETS);
        one("the least that gives back", x, 2, 0);
        EchoGorge y = Check.made("sound 99 0;mask 99 0 0;");
        y.say(0, 0);
        tellAt(y, 0, 0, 7);
        one("the most share", y, 100, 1 << 6);
        none("one less", y, 99);
    }

    private static void ticksZeroToFiftyNine() {
        EchoGorge x = Check.made("sound 50 0;");
        x.say(0, 39);
        tellAt(x, 0, 39, 59);
        one("the last tick, by the most delay", x, 50, 1 << 19);
        EchoGorge y = Check.made("sound 50 0;");
        y.say(0, 50);
        tellAt(y, 0, 50);
        // delays 10 to 20 return at 60 or behind it: 1, 11, 55 and 165 sets
        rivals("behind the last tick", y, 50, 232, 0, ALL_DELAYS & ~511, 0, 0, 1);
        EchoGorge z = Check.made("sound 50 0;");
        z.say(0, 59);
        tellAt(z, 0, 59);
        rivals("said at the last tick", z, 50, ALL_SETS, 0, ALL_DELAYS, 0, 0, 1);
        EchoGorge w = Check.made("sound 50 0;");
        w.say(0, 60);
        rivals("said behind it", w, 50, ALL_SETS, 0, ALL_DELAYS, 0, 0, 1);
        w.say(0, 199);
        rivals("and at the very last", w, 50, ALL_SETS, 0, ALL_DELAYS, 0, 0, 1);
        tellAt(w, 0, 59);
        none("but not told ahead", w, 50);
        EchoGorge v = Check.made("sound 50 0;");
        v.say(0, 0);
        tellAt(v, 0, 0);
        one("said at the first tick", v, 50, 0);
    }

    private static void behindWhatIsTold() {
        EchoGorge x = Check.made("sound 50 0;");
        x.say(0, 0);
        x.say(0, 30);
        tellAt(x, 0, 0);
        none("behind what is told nothing is heard", x, 50);
        tellAt(x, 0, 0, 30);
        one("told too", x, 50, 0);
        for (int tick = 31; tick < 60; tick++) {
            x.tell(NONE);
        }
        one("and nothing behind it, which is told", x, 50, 0);
    }

    /** RIVALS have their own walls: those of the gorge return nothing, AGAIN and SORTS are none, EAR 0 alone. */
    private static void wallsAreNotAsTheyAre() {
        EchoGorge x = Check.made("sound 50 1;wall 3 9 9 100 swallows 1;wall 5 9 9 100 again 3;straight 4 4;");
        x.say(0, 0);
        tellAt(x, 0, 0, 3);
        one("swallowing nothing", x, 50, 1 << 2);
        tellAt(x, 0, 0);
        one("no walls", x, 50, 0);
        tellAt(x, 0, 0, 5, 10);
        one("by two walls", x, 50, 1 << 4 | 1 << 9);
    }

    private static void leastWindowMargin() {
        EchoGorge x = Check.made("sound 50 0;mask 25 2 25;");
        x.say(0, 0);
        tellAt(x, 0, 0, 2);
        // 50 is above 25 by 25, no more
        one("within the margin, just the least", x, 50, 1 << 1);
        none("below the least", x, 48);
        EchoGorge y = Check.made("sound 50 0;mask 24 2 25;");
        y.say(0, 0);
        tellAt(y, 0, 0, 2);
        none("above 24 by 26", y, 48);
        tellAt(y, 0, 0, 3);
        // and 1 and 2 may be there or not, masked
        rivals("behind the window", y, 48, 4, 4, 7, 4, 0, 4);
    }

    private static void firstOfAll() {
        // 6 (2 and 3), 16 (5), 19, 20 and others with more walls: the first has one wall, not the least bits
        EchoGorge x = Check.made("sound 40 0;mask 30 2 0;");
        for (int tick : new int[] {0, 2, 3, 5, 6}) {
            x.say(0, tick);
        }
        tellAt(x, 0, 0, 2, 3, 5);
        CHECK.due("of fewest walls", x.rivals(50, 3), 16);
        CHECK.due("not surely there", x.rivals(50, 1) & 16, 0);
        // of like ones the least bits: one wall of 10 or of 16
        EchoGorge y = Check.made("sound 30 0;mask 40 0 0;");
        y.say(0, 4);
        y.say(0, 10);
        y.say(0, 20);
        tellAt(y, 0, 20);
        CHECK.due("of like ones", y.rivals(50, 3), 1 << 9);
        CHECK.due("the other is one too", y.rivals(50, 2) >> 15 & 1, 1);
    }

    private static void surelyAndPossibly() {
        EchoGorge x = Check.made("sound 50 0;mask 10 3 5;");
        x.say(0, 0);
        tellAt(x, 0, 0, 9);
        // 9, and of 1, 2, 3 at most two: all masked
        rivals("in all, in some", x, 50, 1 + 3 + 3, 1 << 8, 1 << 8 | 7, 1 << 8, 0, 7);
        tellAt(x, 0, 0);
        rivals("in all is none", x, 50, 8, 0, 7, 0, 0, 8);
        tellAt(x, 0, 0, 9, 15, 20);
        int bits = 1 << 8 | 1 << 14 | 1 << 19;
        one("no room for others", x, 50, bits);
        tellAt(x, 0, 0, 9, 15);
        rivals("room for one", x, 50, 4, 1 << 8 | 1 << 14, 1 << 8 | 1 << 14 | 7, 1 << 8 | 1 << 14, 0, 4);
    }

    /** Nothing said: all sets are rivals; those alike but for delays within the window are one group. */
    private static void groupsOfTheWindow() {
        // sets of at most 3 of the window's delays
        int[] groups = {1, 2, 4, 8, 15, 26, 42, 64, 93, 130};
        for (int window = 0; window <= 9; window++) {
            EchoGorge x = Check.made("sound 50 0;mask 1 " + window + " 24;");
            rivals("window " + window, x, 50, ALL_SETS, 0, ALL_DELAYS, 0, 0, groups[window]);
            EchoGorge y = Check.made("sound 50 0;mask 1 " + window + " 25;");
            rivals("window " + window + ", within the margin", y, 50, ALL_SETS, 0, ALL_DELAYS, 0, 0, 1);
        }
    }

    private static void groupsOfTheLeast() {
        EchoGorge x = Check.made("sound 50 0;mask 25 0 0;");
        CHECK.due("just the least", x.rivals(50, 5), 1);
        CHECK.due("one below", x.rivals(49, 5), ALL_SETS);
        EchoGorge y = Check.made("sound 50 0;mask 51 0 0;");
        CHECK.due("the sound itself below", y.rivals(100, 5), ALL_SETS);
        y.say(0, 3);
        rivals("said and not heard, by any set", y, 50, ALL_SETS, 0, ALL_DELAYS, 0, 0, ALL_SETS);
        EchoGorge z = Check.made("sound 50 0;mask 10 0 0;air 12 40;");
        CHECK.due("by air at noon 10", z.rivals(50, 5), 1);
        CHECK.due("by air at noon 9", z.rivals(49, 5), ALL_SETS);
        // 30 by 33 is 9.9
        EchoGorge w = Check.made("sound 60 0;mask 10 0 0;air 12 33;air 11 100;");
        CHECK.due("cut down", w.rivals(50, 5), ALL_SETS);
        w.say(0, 0);
        tellAt(w, 0, 0, 9);
        none("cut down", w, 50);
        one("31 by 33 is 10", w, 52, 1 << 8);
    }

    private static void nextOfLikeOnes() {
        // of 40 comes 20, below the least, of 50 comes 25
        rivals("the least group", Check.made("sound 40 0;sound 50 0;mask 25 0 0;"), 50, ALL_SETS, 0, ALL_DELAYS, 0, 1, 1);
        rivals("of like ones the least", Check.made("sound 40 0;sound 50 0;sound 50 1;sound 60 0;mask 25 0 0;"), 50, ALL_SETS, 0,
                ALL_DELAYS, 0, 1, 1);
        rivals("all alike", Check.made("sound 40 0;sound 41 0;mask 25 0 0;"), 50, ALL_SETS, 0, ALL_DELAYS, 0, 0, ALL_SETS);
        // of eight the last: 60 within the margin, 30 and more above
        rivals("the last", Check.made("sound 99 0;".repeat(7) + "sound 60 0;mask 1 9 30;"), 50, ALL_SETS, 0, ALL_DELAYS, 0, 7, 1);
        rivals("the middle one", Check.made("sound 99 0;sound 20 0;sound 99 0;mask 11 9 30;"), 50, ALL_SETS, 0, ALL_DELAYS, 0, 0, 130);
        // sorts are swallowed by none of them
        rivals("any sort", Check.made("sound 50 3;wall 1 1 1 100 swallows 3;"), 50, ALL_SETS, 0, ALL_DELAYS, 0, 0, 1);
    }

    private static void manySharesByTurns() {
        EchoGorge x = Check.made("sound 50 0;mask 10 3 5;");
        x.say(0, 0);
        tellAt(x, 0, 0);
        for (int turn = 0; turn < 2; turn++) {
            rivals("by turns", x, 50, 8, 0, 7, 0, 0, 8);
            rivals("by turns, too thin", x, 19, ALL_SETS, 0, ALL_DELAYS, 0, 0, ALL_SETS);
            // 45 and 50: no masking
            rivals("by turns, nearly as loud", x, 90, 1, 0, 0, 0, 0, 1);
        }
        tellAt(x, 0, 0, 10);
        rivals("a smaller group behind a greater", x, 50, 7, 1 << 9, 1 << 9 | 7, 1 << 9, 0, 7);
    }

    private static void rivalsRefused() {
        for (EchoGorge x : new EchoGorge[] {Check.made("sound 50 0;"), new EchoGorge()}) {
            for (int what : new int[] {-1, 6, Integer.MIN_VALUE, Integer.MAX_VALUE}) {
                CHECK.dueThrow("what " + what, NoSuchElementException.class, () -> x.rivals(50, what));
            }
            CHECK.due("no status", x.count(7) + x.count(8) + x.count(9), 0);
        }
    }

    private static void noSayers() {
        sayers("new", new EchoGorge(), 1, 0, 0);
        EchoGorge x = Check.made("sound 50 0;sound 5 0;mask 10 0 0;");
        sayers("nothing told", x, 1, 0, 0);
        x.say(0, 0);
        sayers("what is said doesn't count", x, 1, 0, 0);
        tellAt(x, 1, 3);
        sayers("below the least", x, 0, NONE, NONE);
        tellAt(x, 0, 0);
        sayers("the first tick", x, 1, 1, 1);
        x.hush();
        sayers("hushed", x, 1, 1, 1);
    }

    private static void fourteenTicks() {
        EchoGorge x = Check.made("sound 50 0;");
        int[] ticks = new int[14];
        for (int i = 0; i < 14; i++) {
            ticks[i] = i * 4 + 1;
        }
        tellAt(x, 0, ticks);
        sayers("fourteen", x, 1, 14, (1 << 14) - 1);
        x.tell(NONE);
        sayers("nothing behind them", x, 1, 14, (1 << 14) - 1);
        x.tell(0);
        sayers("a fifteenth can't be said", x, 0, NONE, NONE);
        EchoGorge y = Check.made("sound 50 0;");
        tellAt(y, 0, 0, 1, 2, 3, 4, 5, 6, 7, 8, 9, 10, 11, 12);
        sayers("thirteen", y, 1, 13, (1 << 13) - 1);
        for (int tick = 13; tick < 59; tick++) {
            y.tell(NONE);
        }
        y.tell(0);
        sayers("the fourteenth at tick 59", y, 1, 14, (1 << 14) - 1);
        // a fifteenth that returns is no matter
        EchoGorge z = Check.made("sound 50 0;wall 2 9 9 100;");
        tellAt(z, 0, 0, 2, 4, 6, 8, 10, 12, 14, 16, 18, 20, 22, 24, 26, 28);
        // the first and the fourteenth were said, of the twelve between no two neighbours were not: 2, 3, 5 .. 377 ways
        CHECK.due("how many", z.sayers(0), 377);
        CHECK.due("the fewest: each other one", z.sayers(1), 8);
        CHECK.due("the least of so few", z.sayers(2), leastOfSoFew());
        tellAt(z, 0, 0, 2, 4, 6, 8, 10, 12, 14, 16, 18, 20, 22, 24, 26, 28, 30);
        sayers("a sixteenth would be the return of a fifteenth", z, 0, NONE, NONE);
    }

    /** Eight of fourteen, the first and the last among them, no two neighbours without: by going through all. */
    private static int leastOfSoFew() {
        for (int bits = 0; bits < 1 << 14; bits++) {
            boolean gap = (~bits & ~bits >> 1 & (1 << 13) - 1) != 0;
            if (Integer.bitCount(bits) == 8 && (bits & 1) != 0 && (bits >> 13 & 1) != 0 && !gap) {
                return bits;
            }
        }
        return NONE;
    }

    private static void sayersUpToTheEnd() {
        EchoGorge x = Check.made("sound 50 0;wall 2 9 9 100;");
        tellAt(x, 0, 59);
        sayers("its return is behind the end", x, 1, 1, 1);
        tellAt(x, 0, 58);
        sayers("so is this", x, 1, 1, 1);
        tellAt(x, 0, 57);
        sayers("this isn't", x, 0, NONE, NONE);
        tellAt(x, 0, 57, 59);
        sayers("said at 59 too, or not", x, 2, 1, 1);
        tellAt(x, 0, 0);
        sayers("behind what is told nothing may be heard", x, 0, NONE, NONE);
        // a return may be 120 later, behind all
        EchoGorge y = Check.made("sound 50 0;wall 30 9 9 100 again 3;");
        tellAt(y, 0, 0, 30);
        sayers("two of three returns are behind the end", y, 2, 1, 1);
        tellAt(y, 0, 29, 59);
        sayers("the first at the end", y, 2, 1, 1);
    }

    private static void fewestAndLeast() {
        // 0, 6 and 7 were said, and 2 or 4 or both: 2 has less bits
        EchoGorge x = Check.made("sound 40 0;mask 10 0 0;wall 2 9 9 100;");
        tellAt(x, 0, 0, 2, 4, 6, 7, 8, 9);
        sayers("of like few the least bits", x, 3, 4, 27);
        // by a slow going through: 27, 71, 83, 87 and 91
        EchoGorge y = Check.made("sound 20 0;mask 20 0 0;wall 5 9 9 50;wall 2 9 9 100;wall 4 9 9 50;");
        tellAt(y, 0, 0, 1, 2, 3, 4, 5, 6, 8);
        sayers("of three like ones", y, 5, 4, 27);
        // 5 and 3, and 7
        EchoGorge z = Check.made("sound 60 0;sound 90 0;mask 10 3 40;wall 1 9 9 100 again 2;wall 1 9 9 50;");
        tellAt(z, 1, 6, 7, 8);
        sayers("of two like ones", z, 3, 2, 3);
        // several sounds: what was heard is the sound that was said then
        EchoGorge w = Check.made("sound 50 0;sound 60 1;wall 3 9 9 100 swallows 1;");
        tellRow(w, 0, 1, NONE, 0, 1);
        sayers("each by its own sound, the second 0 a return", w, 1, 3, 1 | 2 | 8);
        tellRow(w, 0, 1, 1, 0, 1, 1);
        sayers("all others were said", w, 1, 5, 63 & ~8);
        tellRow(w, 0, 1, 1, 1, 1, 1);
        sayers("the return of 0 is less loud than 1", w, 1, 6, 63);
    }

    private static void sayersByAir() {
        EchoGorge x = Check.made("sound 50 0;wall 2 9 9 50;mask 10 0 0;air 12 40;");
        tellAt(x, 0, 0, 2);
        sayers("25 by 40 is 10", x, 1, 1, 1);
        EchoGorge y = Check.made("sound 50 0;wall 2 9 9 50;mask 10 0 0;air 12 39;air 11 40;");
        tellAt(y, 0, 0, 2);
        sayers("25 by 39 is 9", y, 1, 2, 3);
        // at ear 0: the delays to others and their straight ways are no matter
        EchoGorge z = Check.made("sound 50 0;wall 2 1 1 50;straight 3 3;");
        tellAt(z, 0, 0, 2);
        sayers("ear 0", z, 1, 1, 1);
        CHECK.due("ear 1", z.heard(1, 12, 0), NONE);
        sayers("ear 0 again", z, 1, 1, 1);
    }

    private static void whoWhats() {
        for (EchoGorge x : new EchoGorge[] {Check.made("sound 50 0;"), new EchoGorge()}) {
            for (int what : new int[] {-1, 3, Integer.MIN_VALUE, Integer.MAX_VALUE}) {
                CHECK.dueThrow("sayers(" + what + ")", NoSuchElementException.class, () -> x.sayers(what));
            }
            sayers("as it was", x, 1, 0, 0);
        }
    }
}
