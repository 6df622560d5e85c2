import java.util.NoSuchElementException;

/** Promise 26: code. */
public final class CodeTest {
    private static final Check CHECK = new Check();

    public static void main(String[] args) {
        noReturns();
        oneWall();
        severalReturns();
        likeCodes();
        masked();
        wrongInputs();
        CHECK.end();
    }

    private static void all(String what, EchoGorge x) {
        CHECK.due(what + ": how many", x.code(0, 0), 16);
        CHECK.due(what + ": bits", x.code(0, 1), 65535);
        for (int gap = 2; gap <= 17; gap++) {
            CHECK.due(what + ": gap " + gap, x.code(0, gap), 0);
        }
    }

    private static void noReturns() {
        all("no wall", Check.made("sound 50 0;"));
        all("a wall that swallows", Check.made("sound 50 1;wall 2 2 2 100 swallows 1;"));
        all("a wall too far", Check.made("sound 50 0;wall 18 2 2 100;"));
        all("a wall too near", Check.made("sound 50 0;wall 1 2 2 49;mask 50 9 0;"));
        all("a sound below the least", Check.made("sound 50 0;wall 2 2 2 100;mask 51 0 0;"));
        all("no air at noon", Check.made("sound 50 0;wall 2 2 2 100;air 12 0;"));
        EchoGorge x = Check.made("sound 50 0;wall 2 2 2 100;");
        x.say(0, 4);
        CHECK.due("what is said is not among it", x.code(0, 4), 1 | 1 << 4);
    }

    private static void oneWall() {
        EchoGorge x = Check.made("sound 50 0;wall 2 9 9 100;");
        // all are heard at tick 2; else g and g + 2 fall together
        CHECK.due("gap 2", x.code(0, 2), 65534);
        CHECK.due("gap 3", x.code(0, 3), 1 | 1 << 3);
        CHECK.due("gap 10", x.code(0, 10), 1 | 1 << 6 | 1 << 10);
        CHECK.due("gap 17", x.code(0, 17), 1 | 1 << 13);
        CHECK.due("how many", x.code(0, 0), 8);
        // 3 4 7 8 11 12 15 16
        CHECK.due("bits", x.code(0, 1), 0x6666);
    }

    private static void severalReturns() {
        // 5, 10 and 15 are heard always; else g and g + 5, g + 10, g + 15
        EchoGorge x = Check.made("sound 50 0;wall 5 9 9 100 again 3;");
        CHECK.due("gap 5", x.code(0, 5), 65535 & ~(1 << 3));
        CHECK.due("gap 2", x.code(0, 2), 1 << 3 | 1 << 5 | 1 << 8 | 1 << 10 | 1 << 13 | 1 << 15);
        // 2 7 12 17, 3 8 13, 4 9 14, 6 11 16: one of each, the least
        CHECK.due("how many", x.code(0, 0), 4);
        CHECK.due("bits", x.code(0, 1), 1 | 1 << 1 | 1 << 2 | 1 << 4);
    }

    private static void likeCodes() {
        EchoGorge x = Check.made("sound 50 0;wall 3 9 9 100;wall 10 9 9 100;");
        // 2 4 6 8 13 15 17 and 2 6 7 8 13 14 15 have one sum, the latter has less bits
        CHECK.due("how many", x.code(0, 0), 7);
        CHECK.due("the least bits", x.code(0, 1), 1 | 1 << 4 | 1 << 5 | 1 << 6 | 1 << 11 | 1 << 12 | 1 << 13);
        EchoGorge y = Check.made("sound 50 0;wall 5 9 9 100;wall 12 9 9 100;");
        // 2 3 6 9 10 13 16 17 has a greater sum than 3 4 6 7 10 13 14 17
        CHECK.due("as many", y.code(0, 0), 8);
        CHECK.due("the least sum", y.code(0, 1), 2 | 4 | 16 | 32 | 1 << 8 | 1 << 11 | 1 << 12 | 1 << 15);
    }

    private static void masked() {
        // the return of 50 by 50 is masked within 3 ticks of a clap: of a gap of 2 to 5 the first
        // clap's return at tick 5 is, but for the gap of 5 itself, where both come together
        EchoGorge x = Check.made("sound 50 0;sound 50 1;wall 5 9 9 50 swallows 1;mask 1 3 0;");
        CHECK.due("gap 2", x.code(0, 2), 1 << 5);
        CHECK.due("gap 5", x.code(0, 5), 65535 & ~(1 | 1 << 1 | 1 << 2 | 1 << 3));
        all("the other sound", swapped());
    }

    private static EchoGorge swapped() {
        return Check.made("sound 50 1;sound 50 0;wall 5 9 9 50 swallows 1;mask 1 3 0;");
    }

    private static void wrongInputs() {
        EchoGorge x = Check.made("sound 50 0;");
        CHECK.dueThrow("what -1", NoSuchElementException.class, () -> x.code(0, -1));
        CHECK.dueThrow("what 18", NoSuchElementException.class, () -> x.code(0, 18));
        CHECK.dueThrow("sound 1", NoSuchElementException.class, () -> x.code(1, 0));
        CHECK.dueThrow("sound -1", NoSuchElementException.class, () -> x.code(-1, 0));
    }
}
