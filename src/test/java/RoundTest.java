import java.util.NoSuchElementException;

/** Promises 17 and 18: sing, round. */
public final class RoundTest {
    private static final Check CHECK = new Check();

    public static void main(String[] args) {
        length();
        clashes();
        rests();
        sweet();
        least();
        oneOwnEchoes();
        noon();
        wrongInputs();
        CHECK.end();
    }

    private static EchoGorge sung(String text, int... row) {
        EchoGorge x = Check.made(text);
        for (int tick = 0; tick < row.length; tick++) {
            x.sing(tick, row[tick]);
        }
        return x;
    }

    private static void length() {
        EchoGorge x = Check.made("sound 50 0;");
        CHECK.due("an empty row", x.round(0) + x.round(1) + x.round(2), 0);
        CHECK.due("a rest far behind", x.sing(6, -1), 7);
        CHECK.due("a sound ahead of it", x.sing(2, 0), 7);
        CHECK.due("the last tick", x.sing(15, 0), 16);
        CHECK.due("a rest there instead", x.sing(15, -1), 16);
        CHECK.due("its length", x.round(2), 16);
        CHECK.due("no clash of one sound", x.round(0), 0);
        CHECK.due("no rests", x.round(1), 0);
    }

    private static void clashes() {
        // 0 comes back on the tick of 1
        CHECK.due("one clash", sung("sound 50 0;sound 50 0;wall 1 9 9 50;", 0, 1, -1, -1).round(0), 1);
        CHECK.due("it comes round", sung("sound 50 0;sound 50 0;wall 1 9 9 50;", 0, -1, -1, 1).round(0), 1);
        CHECK.due("both ways", sung("sound 50 0;sound 50 0;wall 2 9 9 50;", 0, -1, 1, -1).round(0), 2);
        CHECK.due("by the second return", sung("sound 50 0;sound 50 1;wall 1 9 9 50 swallows 1 again 2;", 0, -1, 1).round(0), 1);
        CHECK.due("many times round", sung("sound 50 0;sound 50 0;wall 39 9 9 50;", 0, 1, -1, -1).round(0), 1);
    }

    private static void rests() {
        CHECK.due("none needed", sung("sound 50 0;sound 50 0;wall 2 9 9 50;", 0, 1, -1, -1).round(1), 0);
        // 1 at tick 2 comes back on 0, until there is a rest between them
        CHECK.due("one rest", sung("sound 50 0;sound 50 0;wall 1 9 9 50;", 0, -1, 1).round(1), 1);
        // 0 comes back on 1, however many rests there are
        CHECK.due("no rest helps", sung("sound 50 0;sound 50 0;wall 1 9 9 50;", 0, 1).round(1), EchoGorge.NONE);
        EchoGorge x = sung("sound 50 0;sound 50 0;wall 17 9 9 50;", 0, 1);
        // 17 modulo 2 is 1, modulo 3 is 2 (1 falls on 0), modulo 4 is 1, modulo 5 is 2
        CHECK.due("17 modulo 5 is 2", x.round(1), 3);
        CHECK.due("the row stays", x.round(2), 2);
        // no two of 0, 4, 25 and 33 may differ by 1 or -1 modulo the length: they do up to 17
        CHECK.due("sixteen rests", sung("sound 50 0;sound 50 0;wall 4 9 9 50;wall 25 9 9 50;wall 33 9 9 50;", 0, 1).round(1), 16);
        // 0, 4, 27 and 35 do up to 18
        CHECK.due("seventeen are too many", sung("sound 50 0;sound 50 0;wall 4 9 9 50;wall 27 9 9 50;wall 35 9 9 50;", 0, 1)
                .round(1), EchoGorge.NONE);
    }

    private static void sweet() {
        String text = "sound 50 0;sound 50 0;sound 50 0;wall 1 9 9 50;";
        CHECK.due("not sweet", sung(text, 0, 1, -1).round(0), 1);
        CHECK.due("sweet", sung(text + "sweet 1 0;", 0, 1, -1).round(0), 0);
        CHECK.due("another couple", sung(text + "sweet 1 2;", 0, 1, -1).round(0), 1);
        String three = "sound 50 0;sound 50 0;sound 50 0;wall 1 9 9 50;wall 2 9 9 50;sweet 0 1;sweet 1 2;";
        CHECK.due("three at once, two not sweet", sung(three, 0, 1, 2, -1, -1).round(0), 1);
        CHECK.due("three at once, all sweet", sung(three + "sweet 0 2;", 0, 1, 2, -1, -1).round(0), 0);
    }

    private static void least() {
        CHECK.due("below the least", sung("sound 50 0;sound 50 0;wall 1 9 9 50;mask 26 0 0;", 0, 1, -1).round(0), 0);
        CHECK.due("just the least", sung("sound 50 0;sound 50 0;wall 1 9 9 50;mask 25 0 0;", 0, 1, -1).round(0), 1);
        CHECK.due("no masking in a round", sung("sound 50 0;sound 50 0;wall 1 9 9 50;mask 25 9 0;", 0, 1, -1).round(0), 1);
    }

    private static void oneOwnEchoes() {
        // in a row of 3 returns by 1, 4 and 7 come together: 10 each by share 20
        String text = "sound 50 0;sound 50 1;wall 1 9 9 20 swallows 1;wall 4 9 9 20 swallows 1;wall 7 9 9 20 swallows 1;";
        CHECK.due("thirty together", sung(text + "mask 30 0 0;", 0, 1, -1).round(0), 1);
        CHECK.due("not more", sung(text + "mask 31 0 0;", 0, 1, -1).round(0), 0);
    }

    private static void noon() {
        CHECK.due("air at noon", sung("sound 50 0;sound 50 0;wall 1 9 9 50;air 12 0;", 0, 1, -1).round(0), 0);
        CHECK.due("air of another hour", sung("sound 50 0;sound 50 0;wall 1 9 9 50;air 11 0;", 0, 1, -1).round(0), 1);
    }

    private static void wrongInputs() {
        EchoGorge x = Check.made("sound 50 0;");
        CHECK.dueThrow("tick -1", NoSuchElementException.class, () -> x.sing(-1, 0));
        CHECK.dueThrow("tick 16", NoSuchElementException.class, () -> x.sing(16, -1));
        CHECK.dueThrow("sound 1", NoSuchElementException.class, () -> x.sing(0, 1));
        CHECK.dueThrow("sound -2", NoSuchElementException.class, () -> x.sing(0, -2));
        CHECK.due("nothing came of it", x.round(2), 0);
        CHECK.dueThrow("round(-1)", NoSuchElementException.class, () -> x.round(-1));
        CHECK.dueThrow("round(3)", NoSuchElementException.class, () -> x.round(3));
    }
}
