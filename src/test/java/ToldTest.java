import java.util.NoSuchElementException;

/** Promises 19 to 22: tell, untell, rivals, sayers. */
public final class ToldTest {
    private static final Check CHECK = new Check();

    public static void main(String[] args) {
        tell();
        untell();
        oneRival();
        rivalsOfNothing();
        muffledRivals();
        firstOfRivals();
        rivalsByNoon();
        rivalsForget();
        rivalsWrongInputs();
        sayers();
        severalSayers();
        fourteenSayers();
        sayersForget();
        CHECK.end();
    }

    private static void tellAt(EchoGorge x, int sound, int... ticks) {
        x.untell();
        int told = 0;
        for (int tick : ticks) {
            for (; told < tick; told++) {
                x.tell(EchoGorge.NONE);
            }
            x.tell(sound);
            told++;
        }
    }

    private static void due(String what, EchoGorge x, int share, int... want) {
        for (int i = 0; i < 6; i++) {
            CHECK.due(what + ": rivals(" + share + ", " + i + ")", x.rivals(share, i), want[i]);
        }
    }

    private static void dueSayers(String what, EchoGorge x, int... want) {
        for (int i = 0; i < 3; i++) {
            CHECK.due(what + ": sayers(" + i + ")", x.sayers(i), want[i]);
        }
    }

    private static void tell() {
        EchoGorge x = Check.made("sound 50 0;");
        for (int i = 1; i <= 60; i++) {
            CHECK.due("tell", x.tell(i % 2 - 1), i);
        }
        CHECK.due("the 61st", x.tell(0), EchoGorge.NONE);
        CHECK.due("the 62nd", x.tell(-1), EchoGorge.NONE);
        CHECK.due("status", x.count(9), 2);
        CHECK.dueThrow("sound 1", NoSuchElementException.class, () -> x.tell(1));
        CHECK.dueThrow("sound -2", NoSuchElementException.class, () -> x.tell(-2));
        CHECK.due("status without exceptions", x.count(9), 2);
        CHECK.due("told", x.count(5), 60);
    }

    private static void untell() {
        EchoGorge x = Check.made("sound 50 0;");
        CHECK.due("nothing told", x.untell(), 0);
        tellAt(x, 0, 3);
        CHECK.due("four ticks", x.untell(), 4);
        CHECK.due("none is told", x.count(5), 0);
        dueSayers("nothing told", x, 1, 0, 0);
    }

    private static void oneRival() {
        EchoGorge x = Check.made("sound 50 0;sound 30 0;");
        x.say(0, 5);
        tellAt(x, 0, 5, 8, 25);
        // delays 3 and 20
        int bits = 1 << 2 | 1 << 19;
        due("two walls", x, 50, 1, bits, bits, bits, 0, 1);
        tellAt(x, 0, 5, 6, 7, 8);
        due("three walls", x, 50, 1, 7, 7, 7, 0, 1);
        tellAt(x, 0, 5, 8, 12, 25);
        bits = 1 << 2 | 1 << 6 | 1 << 19;
        due("three walls apart", x, 50, 1, bits, bits, bits, 0, 1);
        due("another share", x, 60, 1, bits, bits, bits, 0, 1);
        tellAt(x, 0, 5, 6, 7, 8, 9);
        due("four walls are too many", x, 50, 0, 0, 0, EchoGorge.NONE, EchoGorge.NONE, 0);
        tellAt(x, 0, 5, 26);
        due("a delay of 21", x, 50, 0, 0, 0, EchoGorge.NONE, EchoGorge.NONE, 0);
        tellAt(x, 0, 8);
        due("it was not heard when said", x, 50, 0, 0, 0, EchoGorge.NONE, EchoGorge.NONE, 0);
        tellAt(x, 1, 5);
        due("another sound", x, 50, 0, 0, 0, EchoGorge.NONE, EchoGorge.NONE, 0);
        x.say(0, 61);
        tellAt(x, 0, 5, 15);
        due("what is said behind tick 59 counts for nothing", x, 50, 1, 512, 512, 512, 0, 1);
        CHECK.due("the share is too small", x.rivals(1, 0), 0);
        CHECK.due("the least share", x.rivals(2, 0), 1);
    }

    private static void rivalsOfNothing() {
        int all = (1 << 20) - 1;
        due("no sounds", new EchoGorge(), 100, 1351, 0, all, 0, EchoGorge.NONE, 0);
        EchoGorge x = Check.made("sound 50 0;sound 60 0;wall 1 1 1 100;");
        due("nothing said", x, 100, 1351, 0, all, 0, 0, 1);
        x.tell(0);
        due("told what was not said", x, 100, 0, 0, 0, EchoGorge.NONE, EchoGorge.NONE, 0);
        x.untell();
        x.say(0, 199);
        due("said where nothing is told", x, 100, 1351, 0, all, 0, 0, 1);
        x.say(1, 59);
        due("said at tick 59", x, 100, 0, 0, 0, EchoGorge.NONE, EchoGorge.NONE, 0);
    }

    private static void muffledRivals() {
        EchoGorge x = Check.made("sound 50 0;sound 10 0;sound 10 0;mask 1 3 5;");
        x.say(0, 0);
        tellAt(x, 0, 0);
        // delays within the window are masked by the sound; sound 1 stays within the margin
        due("within the window", x, 50, 8, 0, 7, 0, 1, 1);
        EchoGorge y = Check.made("sound 50 0;mask 1 3 5;");
        y.say(0, 0);
        tellAt(y, 0, 0, 10);
        // 10 and at most two of three: 1 + 3 + 3
        due("one beyond it", y, 50, 7, 512, 519, 512, 0, 7);
        EchoGorge z = Check.made("sound 50 0;sound 9 0;mask 5 0 0;");
        z.say(1, 0);
        tellAt(z, 1, 0);
        // 9 by 50 is 4, never heard; sound 0 would tell all 1351 apart
        due("below the least", z, 50, 1351, 0, (1 << 20) - 1, 0, 0, 1);
        due("below the least of all sounds", z, 1, 1351, 0, (1 << 20) - 1, 0, 0, 1351);
    }

    private static void firstOfRivals() {
        EchoGorge x = Check.made("sound 50 0;mask 40 0 0;");
        x.say(0, 0);
        x.say(0, 1);
        tellAt(x, 0, 0, 1, 11);
        // 25 alone is not heard, two of them at 11 are: by 10 and 11 both; a third wall of 9 or 12 would make
        // another such pair
        int pair = 1 << 9 | 1 << 10;
        CHECK.due("how many", x.rivals(50, 0), 1 + 16);
        CHECK.due("surely", x.rivals(50, 1), pair);
        CHECK.due("the first has fewest walls", x.rivals(50, 3), pair);
        CHECK.due("possibly", x.rivals(50, 2), (1 << 20) - 1 & ~(1 << 8 | 1 << 11));
        // 30 alone is not heard, at 20 with 15 more it is: by 16 from tick 4 or by 10 from tick 10
        EchoGorge y = Check.made("sound 30 0;mask 40 0 0;");
        y.say(0, 4);
        y.say(0, 10);
        y.say(0, 20);
        tellAt(y, 0, 20);
        CHECK.due("of like ones the least bits", y.rivals(50, 3), 1 << 9);
        CHECK.due("either", y.rivals(50, 1), 0);
        CHECK.due("6 would be heard at 10", y.rivals(50, 2) & 1 << 5, 0);
    }

    private static void rivalsByNoon() {
        EchoGorge x = Check.made("sound 50 0;mask 10 0 0;air 12 40;");
        x.say(0, 0);
        tellAt(x, 0, 0, 4);
        due("25 by 40 is 10", x, 50, 1, 8, 8, 8, 0, 1);
        CHECK.due("24 by 40 is 9", x.rivals(49, 0), 0);
    }

    private static void rivalsForget() {
        EchoGorge x = Check.made("sound 50 0;");
        CHECK.due("all", x.rivals(50, 0), 1351);
        x.image();
        x.say(0, 0);
        CHECK.due("said", x.rivals(50, 0), 0);
        x.tell(0);
        CHECK.due("told", x.rivals(50, 0), 1);
        CHECK.due("another share", x.rivals(1, 0), 1351);
        x.hush();
        CHECK.due("hushed", x.rivals(1, 0), 0);
        x.untell();
        CHECK.due("untold", x.rivals(1, 0), 1351);
        x.say(0, 0);
        CHECK.due("said again", x.rivals(1, 0), 0);
        x.restore();
        CHECK.due("restored", x.rivals(1, 0), 1351);
        Check.gorge(x, "");
        CHECK.due("no sounds", x.rivals(1, 4), EchoGorge.NONE);
    }

    private static void rivalsWrongInputs() {
        EchoGorge x = Check.made("sound 50 0;");
        CHECK.dueThrow("what -1", NoSuchElementException.class, () -> x.rivals(50, -1));
        CHECK.dueThrow("what 6", NoSuchElementException.class, () -> x.rivals(50, 6));
        CHECK.dueThrow("what ahead of share", NoSuchElementException.class, () -> x.rivals(0, 6));
        CHECK.dueThrow("share 0", IllegalArgumentException.class, () -> x.rivals(0, 5));
        CHECK.dueThrow("share 101", IllegalArgumentException.class, () -> x.rivals(101, 0));
        CHECK.dueThrow("sayers(-1)", NoSuchElementException.class, () -> x.sayers(-1));
        CHECK.dueThrow("sayers(3)", NoSuchElementException.class, () -> x.sayers(3));
    }

    private static void sayers() {
        EchoGorge x = Check.made("sound 50 0;sound 60 1;wall 2 9 9 100 swallows 1;");
        tellAt(x, 0, 0, 2);
        dueSayers("said once", x, 1, 1, 1);
        tellAt(x, 0, 0, 2, 4);
        dueSayers("said twice", x, 1, 2, 3);
        tellAt(x, 0, 0, 4);
        dueSayers("a return is missing", x, 0, EchoGorge.NONE, EchoGorge.NONE);
        tellAt(x, 1, 7, 9);
        dueSayers("swallowed", x, 1, 2, 3);
        tellAt(x, 0, 57, 59);
        dueSayers("at the end: said at 59 or not", x, 2, 1, 1);
        tellAt(x, 0, 59);
        dueSayers("at the very end", x, 1, 1, 1);
        tellAt(x, 0, 58);
        dueSayers("the return is behind the end", x, 1, 1, 1);
        // what is said otherwise is not asked
        x.say(1, 0);
        dueSayers("said otherwise", x, 1, 1, 1);
    }

    private static void severalSayers() {
        EchoGorge x = Check.made("sound 50 0;wall 1 9 9 100;wall 2 9 9 100;");
        tellAt(x, 0, 0, 1, 2, 3, 4);
        dueSayers("with 1 or without", x, 2, 2, 5);
        tellAt(x, 0, 3, 4, 5, 6, 7);
        dueSayers("the first such tick is bit 0", x, 2, 2, 5);
        EchoGorge w = Check.made("sound 50 0;wall 1 9 9 100;");
        tellAt(w, 0, 0, 1, 2, 3, 4);
        dueSayers("0 1 3, 0 2 3 and 0 1 2 3", w, 3, 3, 1 | 2 | 8);
        // 0, or 0 and 1, or all three: what is louder masks the returns behind tick 2
        EchoGorge y = Check.made("sound 50 0;wall 1 9 9 100;wall 2 9 9 100;mask 1 1 0;");
        tellAt(y, 0, 0, 1, 2);
        dueSayers("masked", y, 3, 1, 1);
        EchoGorge z = Check.made("sound 50 0;wall 1 9 9 50;air 12 0;");
        tellAt(z, 0, 0, 1);
        dueSayers("no air at noon", z, 1, 2, 3);
        EchoGorge v = Check.made("sound 50 0;sound 99 0;mask 1 3 0;");
        v.say(1, 0);
        CHECK.due("heard ahead of it", v.heard(0, 12, 0), 1);
        tellAt(v, 0, 1);
        dueSayers("what was heard otherwise masks nothing", v, 1, 1, 1);
    }

    private static void fourteenSayers() {
        EchoGorge x = Check.made("sound 50 0;");
        int[] ticks = {0, 1, 2, 5, 8, 9, 10, 11, 20, 21, 22, 23, 24, 25};
        tellAt(x, 0, ticks);
        dueSayers("fourteen", x, 1, 14, (1 << 14) - 1);
        x.tell(0);
        dueSayers("the fifteenth was not said", x, 0, EchoGorge.NONE, EchoGorge.NONE);
        EchoGorge y = Check.made("sound 50 0;wall 20 9 9 100 again 2;");
        int[] more = new int[42];
        for (int i = 0; i < 42; i++) {
            more[i] = i / 14 * 20 + i % 14;
        }
        tellAt(y, 0, more);
        dueSayers("those behind are returns", y, 1, 14, (1 << 14) - 1);
    }

    private static void sayersForget() {
        EchoGorge x = Check.made("sound 50 0;");
        x.image();
        dueSayers("nothing", x, 1, 0, 0);
        x.tell(0);
        dueSayers("told", x, 1, 1, 1);
        x.restore();
        dueSayers("restored", x, 1, 0, 0);
        x.tell(0);
        dueSayers("told again", x, 1, 1, 1);
        x.untell();
        dueSayers("untold", x, 1, 0, 0);
        x.tell(-1);
        x.tell(0);
        dueSayers("told at tick 1", x, 1, 1, 1);
        Check.gorge(x, "sound 1 0;mask 2 0 0;");
        x.tell(0);
        dueSayers("a sound that is never heard", x, 0, -1, -1);
    }
}
