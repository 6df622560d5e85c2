import java.util.NoSuchElementException;

/** Promises 12 to 16: lines, line, still, without, lasts. */
public final class LinesTest {
    private static final Check CHECK = new Check();

    public static void main(String[] args) {
        echoes();
        echoedButNoAnswer();
        echoedByTheLastWord();
        wordsOfItsKinds();
        maskedByTheLine();
        answersByAnotherForm();
        kindsWithoutWords();
        plainest();
        spoilt();
        airOfHours();
        fog();
        answersNowAlone();
        walls();
        mostLines();
        wrongInputs();
        CHECK.end();
    }

    /** A wall as far as the line is long gives all of it back. */
    private static void echoes() {
        EchoGorge x = Check.made("sound 50 0;sound 40 1;wall 2 1 1 50;word 0 0 1;word 1 0;word 1 1;form 0;form 1 1;");
        CHECK.due("lines", x.count(10), 5);
        CHECK.due("all answer", x.lines(12, 0), 5);
        // the return of two words is more than the last one
        CHECK.due("echoed", x.lines(12, 1), 1);
        CHECK.due("plainest", x.lines(12, 2), 2);
        CHECK.due("spoilt", x.lines(12, 3), 0);
        CHECK.due("beginnings", x.lines(12, 4), 3);
        int[][] want = {{0, 0, -1, -1}, {1, 1, 1, -1}, {1, 1, 2, -1}, {1, 2, 1, -1}, {1, 2, 2, -1}};
        for (int i = 0; i < 5; i++) {
            for (int what = 0; what < 4; what++) {
                CHECK.due("line(12, " + i + ", " + what + ")", x.line(12, i, what), want[i][what]);
            }
        }
        CHECK.dueThrow("no sixth", NoSuchElementException.class, () -> x.line(12, 5, 0));
        // what is said otherwise is not among it
        x.say(1, 3);
        CHECK.due("with nothing else", x.lines(12, 0), 5);
    }

    private static void echoedButNoAnswer() {
        EchoGorge x = Check.made("sound 50 0;wall 1 1 1 100;word 0 0;form 0 0;");
        CHECK.due("the return is the last word", x.lines(12, 1), 1);
        CHECK.due("which is no line", x.lines(12, 0), 0);
        CHECK.due("no plainest", x.lines(12, 2), EchoGorge.NONE);
        CHECK.due("spoilt", x.lines(12, 3), 1);
        CHECK.due("lasts", x.lasts(12), EchoGorge.NONE);
        CHECK.due("still", x.still(12, 0), 0);
        CHECK.dueThrow("no plainest line", NoSuchElementException.class, () -> x.line(12, -1, 0));
        EchoGorge y = Check.made("sound 50 0;word 0 0;form 0;");
        CHECK.due("no wall, no return", y.lines(12, 0) + y.lines(12, 1), 0);
    }

    private static void echoedByTheLastWord() {
        String text = "sound 50 0;sound 50 1;wall 5 1 1 100 swallows 0;word 0 0;word 1 1;";
        CHECK.due("the last word comes back", Check.made(text + "form 0 1;").lines(12, 1), 1);
        CHECK.due("the first one comes back", Check.made(text + "form 1 0;").lines(12, 1), 0);
        CHECK.due("the middle one comes back", Check.made(text + "form 0 1 0;").lines(12, 1), 0);
        CHECK.due("the last of three", Check.made(text + "form 0 0 1;").lines(12, 1), 1);
    }

    /** A return that is no line, though words of other kinds or of an older gorge would make it one. */
    private static void wordsOfItsKinds() {
        EchoGorge x = Check.made("sound 50 0;sound 50 1;wall 5 1 1 100 swallows 1;word 0 0;word 1 1 0;word 1 1;form 1;");
        CHECK.due("a word of another kind", x.lines(12, 0), 0);
        EchoGorge y = Check.made("sound 50 0;sound 50 1;word 1 0;form 1;form 1;");
        Check.gorge(y, "sound 50 0;sound 50 1;word 1 0;form 1;form 1;");
        Check.gorge(y, "sound 50 0;sound 50 1;wall 5 1 1 100 swallows 1;word 0 1 0;word 1 0;word 0 1;form 0;");
        CHECK.due("a form of an older gorge", y.lines(12, 0), 0);
    }

    private static void maskedByTheLine() {
        EchoGorge x = Check.made("sound 50 0;wall 1 1 1 50;mask 1 1 0;word 0 0;form 0;");
        x.heard(0, 12, 0);
        CHECK.due("the line itself masks its return", x.lines(12, 0), 0);
        CHECK.due("not beyond the window", Check.made("sound 50 0;wall 2 1 1 50;mask 1 1 0;word 0 0;form 0;").lines(12, 0), 1);
    }

    private static void answersByAnotherForm() {
        // the wall swallows sound 1, so of "0 1" comes back "0", a line of form 1
        EchoGorge x = Check.made("sound 50 0;sound 50 1;wall 2 1 1 100 swallows 1;word 0 0 1;word 1 0;form 0;form 1;");
        CHECK.due("both answer", x.lines(0, 0), 2);
        CHECK.due("only the one is echoed", x.lines(0, 1), 1);
        CHECK.due("the second is the plainest", x.line(0, -1, 0), 1);
        CHECK.due("of one sound", x.lines(0, 2), 1);
    }

    private static void kindsWithoutWords() {
        EchoGorge x = Check.made("sound 50 0;wall 9 1 1 100;word 0 0;form 0 3;form 3;form 0;form 3 0;");
        CHECK.due("lines", x.count(10), 1);
        CHECK.due("beginnings whose kinds all have words", x.lines(1, 4), 1);
        CHECK.due("none spoilt", x.lines(1, 3), 0);
        CHECK.due("the line's form", x.line(1, 0, 0), 2);
        CHECK.due("the plainest line's form", x.line(1, -1, 0), 2);
        CHECK.due("its word", x.line(1, 0, 1), 0);
        CHECK.due("no second word", x.line(1, 0, 2), EchoGorge.NONE);
        CHECK.due("still, with empty forms ahead", x.still(1, 5), 1);
    }

    private static void plainest() {
        EchoGorge x = Check.made("sound 50 0;wall 9 1 1 100;word 0 0 0;word 0 0;word 0 0;form 0 0;form 0;");
        CHECK.due("all answer", x.lines(0, 0), 12);
        CHECK.due("the fewest sounds", x.lines(0, 2), 1);
        CHECK.due("the first of like ones: form", x.line(0, -1, 0), 1);
        CHECK.due("the first of like ones: word", x.line(0, -1, 1), 1);
        CHECK.due("two of like sounds are two", x.line(0, 11, 1), 2);
        CHECK.due("rows of words", x.line(0, 5, 1) * 10 + x.line(0, 5, 2), 12);
    }

    private static void spoilt() {
        // sound 1 is swallowed: lines with word 1 in them return fewer sounds
        EchoGorge x = Check.made("sound 50 0;sound 50 1;wall 5 1 1 100 swallows 1;word 0 0;word 0 1;form 0 0;");
        // 0 0 returns 0 0; 0 1 returns 0; 1 0 returns 0; 1 1 nothing
        CHECK.due("one answers", x.lines(0, 0), 1);
        CHECK.due("the beginning with word 1 is spoilt", x.lines(0, 3), 1);
        CHECK.due("of two", x.lines(0, 4), 2);
        CHECK.due("echoed: 1 0", x.lines(0, 1), 1);
        EchoGorge y = Check.made("sound 50 0;wall 1 1 1 100;word 0 0;word 0 0 0;form 0 0;form 0 0;");
        // each returns one sound, no line has one
        CHECK.due("all spoilt, the forms apart", y.lines(0, 3) * 10 + y.lines(0, 4), 44);
    }

    private static void airOfHours() {
        EchoGorge x = Check.made("sound 50 0;wall 1 1 1 50;mask 10 0 0;air 3 39;air 4 40;air 5 40;word 0 0;form 0;");
        CHECK.due("25 by 39 is 9", x.lines(3, 0), 0);
        CHECK.due("25 by 40 is 10", x.lines(4, 0), 1);
        CHECK.due("an hour of like air", x.lines(5, 0), 1);
        CHECK.due("another hour", x.lines(23, 0), 1);
        CHECK.due("lasts of that air", x.lasts(4), 0);
        CHECK.due("lasts of like air", x.lasts(5), 0);
        CHECK.due("lasts at noon", x.lasts(12), 60);
        CHECK.due("lasts of none", x.lasts(3), EchoGorge.NONE);
        EchoGorge y = Check.made("sound 50 0;wall 1 1 1 50;air 0 0;word 0 0;form 0;");
        CHECK.due("hour 0 has no air", y.lines(0, 0), 0);
        CHECK.due("hour 1 has", y.lines(1, 0), 1);
    }

    private static void fog() {
        EchoGorge x = Check.made("sound 50 0;sound 90 1;wall 1 1 1 50;mask 10 0 0;word 0 0;word 1 1;form 0;form 1;");
        // share 50 in a fog of 60 is 20, of 61 is 19: 50 by 20 is 10
        CHECK.due("still(12, 0)", x.still(12, 0), 2);
        CHECK.due("still(12, 60)", x.still(12, 60), 2);
        CHECK.due("still(12, 61)", x.still(12, 61), 1);
        // 90 by 12 is 10, 90 by 11 is 9: 50 by 24 is 12
        CHECK.due("still(12, 76)", x.still(12, 76), 1);
        CHECK.due("still(12, 77)", x.still(12, 77), 0);
        CHECK.due("still(12, 100)", x.still(12, 100), 0);
        CHECK.due("lasts", x.lasts(12), 76);
        CHECK.due("the lines are as they were", x.lines(12, 0), 2);
        CHECK.dueThrow("fog -1", IllegalArgumentException.class, () -> x.still(12, -1));
        CHECK.dueThrow("fog 101", IllegalArgumentException.class, () -> x.still(12, 101));
        CHECK.dueThrow("hour ahead of fog", NoSuchElementException.class, () -> x.still(24, 101));
        EchoGorge y = Check.made("sound 99 0;wall 1 1 1 100;word 0 0;form 0;");
        // a share of 2 leaves 1, of 1 nothing
        CHECK.due("lasts nearly to the end", y.lasts(0), 98);
        EchoGorge z = Check.made("sound 99 0;wall 1 1 1 100;mask 98 0 0;word 0 0;form 0;");
        // 99 by 99 is 98, 99 by 98 is 97
        CHECK.due("lasts hardly", z.lasts(0), 1);
        EchoGorge w = Check.made("sound 99 0;wall 1 1 1 100;mask 99 0 0;word 0 0;form 0;");
        CHECK.due("lasts not at all", w.lasts(0), 0);
    }

    private static void answersNowAlone() {
        // without wall 1 word 0 would be given back once; now it comes twice, which is no line
        EchoGorge x = Check.made("sound 50 0;wall 3 1 1 50;wall 5 1 1 20;mask 10 0 0;word 0 0;form 0;");
        CHECK.due("now none", x.lines(12, 0), 0);
        CHECK.due("in a fog it would", x.still(12, 10), 0);
        CHECK.due("without a wall it would", x.without(12, 1), 0);
        CHECK.due("lasts", x.lasts(12), EchoGorge.NONE);
    }

    private static void walls() {
        EchoGorge x = Check.made("sound 50 0;sound 50 1;wall 3 1 1 50 swallows 0;wall 4 1 1 50 swallows 1;wall 6 6 6 0;"
                + "word 0 0;word 0 1;form 0;");
        CHECK.due("now two", x.lines(12, 0), 2);
        CHECK.due("without wall 0", x.without(12, 0), 1);
        CHECK.due("without wall 1", x.without(12, 1), 1);
        CHECK.due("without a wall that returns nothing", x.without(12, 2), 2);
        CHECK.due("all stand still", x.still(12, 0), 2);
        EchoGorge y = Check.made("sound 99 0;wall 1 2 2 100;wall 9 2 2 1;mask 99 0 0;word 0 0;form 0;");
        CHECK.due("without one the others are as they were", y.without(12, 1), 1);
        CHECK.dueThrow("no wall 3", NoSuchElementException.class, () -> x.without(12, 3));
        CHECK.dueThrow("no wall -1", NoSuchElementException.class, () -> x.without(12, -1));
        CHECK.dueThrow("hour 24", NoSuchElementException.class, () -> x.without(24, 0));
    }

    private static void mostLines() {
        EchoGorge x = Check.made("sound 50 0;wall 12 1 1 100;" + "word 0 0 0 0 0;".repeat(8) + "form 0 0 0;".repeat(6));
        CHECK.due("all answer", x.lines(0, 0), 3072);
        CHECK.due("of twelve sounds", x.lines(0, 2), 12);
        CHECK.due("beginnings", x.lines(0, 4), 48);
        CHECK.due("the last one", x.line(0, 3071, 0) * 1000 + x.line(0, 3071, 1) * 100 + x.line(0, 3071, 3), 5707);
        CHECK.due("one ahead of it", x.line(0, 3070, 3), 6);
        CHECK.dueThrow("no more", NoSuchElementException.class, () -> x.line(0, 3072, 0));
        // 12 return 24, longer than any line; 4 return 8, which is a line; 8 return 16
        EchoGorge y = Check.made("sound 50 0;wall 12 1 1 100 again 2;word 0 0 0 0 0;form 0 0 0;form 0;form 0 0;");
        CHECK.due("one answers", y.lines(0, 0), 1);
        CHECK.due("by a longer line", y.line(0, 0, 0), 1);
        CHECK.due("eight sounds are no line", Check.made("sound 50 0;wall 9 1 1 100 again 2;word 0 0 0 0 0;form 0;")
                .lines(0, 0), 0);
    }

    private static void wrongInputs() {
        EchoGorge x = Check.made("sound 50 0;wall 1 1 1 100;word 0 0;form 0;");
        for (int hour : new int[] {-1, 24, Integer.MIN_VALUE, Integer.MAX_VALUE}) {
            CHECK.dueThrow("lines(" + hour + ")", NoSuchElementException.class, () -> x.lines(hour, 0));
            CHECK.dueThrow("line(" + hour + ")", NoSuchElementException.class, () -> x.line(hour, 0, 0));
            CHECK.dueThrow("still(" + hour + ")", NoSuchElementException.class, () -> x.still(hour, 0));
            CHECK.dueThrow("without(" + hour + ")", NoSuchElementException.class, () -> x.without(hour, 0));
            CHECK.dueThrow("lasts(" + hour + ")", NoSuchElementException.class, () -> x.lasts(hour));
        }
        for (int what : new int[] {-1, 5, Integer.MIN_VALUE, Integer.MAX_VALUE}) {
            CHECK.dueThrow("lines(0, " + what + ")", NoSuchElementException.class, () -> x.lines(0, what));
            CHECK.dueThrow("line(0, 0, " + what + ")", NoSuchElementException.class, () -> x.line(0, 0, what));
        }
        CHECK.dueThrow("line(0, 0, 4)", NoSuchElementException.class, () -> x.line(0, 0, 4));
        CHECK.dueThrow("line(0, -2, 0)", NoSuchElementException.class, () -> x.line(0, -2, 0));
        CHECK.dueThrow("line(0, most, 0)", NoSuchElementException.class, () -> x.line(0, Integer.MAX_VALUE, 0));
        CHECK.due("line(0, 0, 3)", x.line(0, 0, 3), EchoGorge.NONE);
    }
}
