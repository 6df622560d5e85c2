import java.util.NoSuchElementException;

/** The edges of lines, their returns, fog and walls that fell (part 3, promises 12 to 16). */
public final class LinesEdgesTest {
    private static final Check CHECK = new Check();
    private static final int NONE = EchoGorge.NONE;

    public static void main(String[] args) {
        noLines();
        oneLine();
        behindTheLastSound();
        nothingLeftOut();
        longestReturn();
        latestReturn();
        returnsThatAreNoLine();
        echoedEdges();
        orderOfLines();
        likeLinesAreTwo();
        plainestEdges();
        spoiltEdges();
        kindsWithoutAWord();
        manyLines();
        mostLinesInTwoHours();
        hoursOfTheirOwn();
        noneOfAnOlderGorge();
        indexOfLines();
        partsOfLines();
        everyHour();
        fogOnBothSides();
        fogThatHelps();
        lastsEdges();
        lastsTogether();
        lastsOfMostWays();
        withoutEdges();
        earZeroAlone();
        nothingElseSaid();
        wrongInputs();
        CHECK.end();
    }

    private static void lines(String what, EchoGorge x, int hour, int... want) {
        for (int i = 0; i < 5; i++) {
            CHECK.due(what + ": lines(" + hour + ", " + i + ")", x.lines(hour, i), want[i]);
        }
    }

    private static void noLines() {
        String[] texts = {"", "sound 50 0;wall 1 1 1 100;", "sound 50 0;wall 1 1 1 100;word 0 0;",
            "sound 50 0;wall 1 1 1 100;form 0;", "sound 50 0;wall 1 1 1 100;word 0 0;form 1;form 0 1;form 1 0;"};
        for (String text : texts) {
            EchoGorge x = Check.made(text);
            for (int hour = 0; hour < 24; hour += 23) {
                lines("\"" + text + "\"", x, hour, 0, 0, NONE, 0, 0);
                CHECK.due("lasts", x.lasts(hour), NONE);
                CHECK.due("still", x.still(hour, 0) + x.still(hour, 100), 0);
                for (int i = -1; i <= 1; i++) {
                    int h = hour;
                    int at = i;
                    CHECK.dueThrow("no line " + i, NoSuchElementException.class, () -> x.line(h, at, 0));
                }
            }
        }
        EchoGorge none = new EchoGorge();
        lines("new", none, 12, 0, 0, NONE, 0, 0);
        CHECK.due("new lasts", none.lasts(12), NONE);
        CHECK.due("new still", none.still(12, 50), 0);
    }

    private static void oneLine() {
        EchoGorge x = Check.made("sound 50 0;wall 1 1 1 2;word 3 0;form 3;");
        lines("one line of one sound", x, 12, 1, 1, 1, 0, 1);
        CHECK.due("its form", x.line(12, 0, 0), 0);
        CHECK.due("its word", x.line(12, 0, 1), 0);
        CHECK.due("still", x.still(12, 0), 1);
        CHECK.due("lasts", x.lasts(12), 0);
    }

    /** What comes on the line's last tick is not behind it; one tick later is. */
    private static void behindTheLastSound() {
        // of 0 0 by a delay of 1 comes back one sound at tick 1 and one at tick 2
        EchoGorge x = Check.made("sound 50 0;wall 1 1 1 100;word 0 0 0;word 1 0;form 0;form 1;");
        CHECK.due("0 0 answers by 0, 0 by 0", x.lines(12, 0), 2);
        CHECK.due("one echoed", x.lines(12, 1), 1);
        // by a delay of 2 both are behind it
        EchoGorge y = Check.made("sound 50 0;wall 2 1 1 100;word 0 0 0;word 1 0;form 0;form 1;");
        lines("both echoed", y, 12, 2, 2, 1, 0, 2);
        // the last sound may be masked, and masks: the line is heard on its own ticks, not in the return
        EchoGorge z = Check.made("sound 50 0;sound 20 0;wall 2 1 1 100;mask 1 1 0;word 0 0 1;form 0;word 1 0;form 1;");
        // of 0 1 comes 0 at tick 2 (20 ahead of it), 1 at tick 3 behind it masked by that: 0, which is a line
        CHECK.due("masked in the return", z.lines(12, 0), 2);
        CHECK.due("none is the last word but 0", z.lines(12, 1), 1);
        EchoGorge w = Check.made("sound 50 0;wall 1 1 1 98;mask 1 1 0;word 0 0;form 0;");
        lines("masked by the line", w, 12, 0, 0, NONE, 1, 1);
    }

    private static void nothingLeftOut() {
        // 0 and 1 come back far apart: by one wall at 5 and 6, sort 0 by the other at 40
        EchoGorge x = Check.made("sound 50 0;sound 50 1;wall 5 1 1 100 swallows 0;wall 40 1 1 100 swallows 1;"
                + "word 0 0 1;word 1 1 0;form 0;form 1;");
        // 0 1: 1 at tick 6, 0 at tick 40: the line 1 0, which comes back as 1 at 5, 0 at 41
        CHECK.due("ticks with nothing are left out", x.lines(12, 0), 2);
        CHECK.due("1 0 is the one echoed", x.lines(12, 1), 1);
    }

    /** The longest line has 3 words of 4 sounds. */
    private static void longestReturn() {
        // eight words of the last kind
        EchoGorge u = Check.made("sound 50 0;wall 12 1 1 100;" + "word 3 0;".repeat(8) + "form 3;form 3 3 3;");
        lines("all of the last kind", u, 12, 520, 8, 1, 0, 16);
        CHECK.due("the last word of the last line", u.line(12, 519, 3), 7);
        String words = "word 0 0 0 0 0;form 0 0 0;";
        EchoGorge x = Check.made("sound 50 0;wall 12 1 1 100;" + words);
        lines("twelve come back", x, 12, 1, 0, 12, 0, 1);
        EchoGorge y = Check.made("sound 50 0;wall 13 1 1 100;wall 12 1 1 100;" + words);
        lines("thirteen are no line", y, 12, 0, 0, NONE, 1, 1);
        EchoGorge z = Check.made("sound 50 0;wall 11 1 1 100;" + words);
        lines("eleven are no line", z, 12, 0, 0, NONE, 1, 1);
        EchoGorge w = Check.made("sound 50 0;wall 4 1 1 100;" + words);
        lines("four are its last word", w, 12, 0, 1, NONE, 1, 1);
        EchoGorge v = Check.made("sound 50 0;wall 40 1 1 100 again 3;" + words);
        lines("thirty-six", v, 12, 0, 0, NONE, 1, 1);
    }

    /** By 3 delays of 40, behind twelve sounds: tick 131. */
    private static void latestReturn() {
        String text = "sound 99 0;sound 9 1;wall 40 1 1 60 swallows 0 again 3;wall 12 1 1 100 swallows 1;"
                + "word 0 0 0 0 0;word 1 0 0 0 1;form 0 0 1;form 0 0 0;";
        // the line's 11 sounds 0 come back at 12 to 22, its last one, 9 at tick 11, as 5, 3 and 1 at 51, 91, 131
        EchoGorge x = Check.made(text);
        CHECK.due("three of 1 behind eleven of 0 are no line", x.lines(12, 0), 1);
        // by a mask of 2 the last one is gone, by 4 the last two are: then it is itself the return
        CHECK.due("two of them", Check.made(text + "mask 2 0 0;").lines(12, 0), 1);
        CHECK.due("one of them", Check.made(text + "mask 4 0 0;").lines(12, 0), 2);
        // 1 alone comes thrice, 120 later at last
        EchoGorge y = Check.made("sound 99 0;wall 40 1 1 100 again 3;word 0 0;form 0 0 0;form 0;");
        CHECK.due("one comes thrice", y.line(12, 0, 0), 1);
        CHECK.due("three come nine times", y.lines(12, 0), 1);
    }

    private static void returnsThatAreNoLine() {
        EchoGorge x = Check.made("sound 50 0;sound 50 1;wall 2 1 1 100 swallows 1;word 0 0;word 0 1;word 1 0 0;form 0;form 1;");
        // 1 gives back nothing, which is no line
        lines("nothing is no line", x, 12, 2, 2, 1, 1, 3);
        EchoGorge y = Check.made("sound 50 0;word 0 0;form 0;");
        lines("no wall", y, 12, 0, 0, NONE, 1, 1);
        EchoGorge z = Check.made("sound 50 0;wall 1 1 1 1;word 0 0;form 0;");
        lines("too thin", z, 12, 0, 0, NONE, 1, 1);
        // the sounds of a word that no form has are no line
        EchoGorge w = Check.made("sound 50 0;sound 50 1;wall 3 1 1 100 swallows 1;word 0 0 1;word 1 0;form 0;");
        lines("a word without a form", w, 12, 0, 0, NONE, 1, 1);
        // a form's later words alone are no line of it, though as long as one: 0 1 gives back 1 1
        EchoGorge u = Check.made("sound 50 0;sound 50 1;wall 9 1 1 100 swallows 0;word 0 0;word 1 1;word 1 1 1;form 0 1;");
        lines("later words alone", u, 12, 0, 2, NONE, 1, 1);
        // a return may be a line whose words are cut otherwise
        EchoGorge v = Check.made("sound 50 0;sound 50 1;wall 3 1 1 100;word 0 0;word 1 1 0;word 2 0 1;word 3 0;form 0 1;form 2 3;");
        lines("cut otherwise", v, 12, 2, 0, 3, 0, 2);
    }

    private static void echoedEdges() {
        // the whole line of one word; of four sounds
        EchoGorge x = Check.made("sound 50 0;wall 4 1 1 100;word 0 0 0 0 0;form 0;");
        lines("four sounds", x, 12, 1, 1, 4, 0, 1);
        // its last word's first sounds alone, and more than its last word
        EchoGorge y = Check.made("sound 50 0;sound 50 1;wall 4 1 1 100 swallows 1;word 0 0 1;form 0;");
        lines("its first sound alone", y, 12, 0, 0, NONE, 1, 1);
        EchoGorge z = Check.made("sound 50 0;sound 50 1;wall 4 1 1 100 swallows 0;word 0 0 1;form 0;");
        lines("its last sound alone", z, 12, 0, 0, NONE, 1, 1);
        EchoGorge w = Check.made("sound 50 0;wall 2 1 1 100;wall 3 1 1 100;word 0 0 0;form 0;");
        lines("one sound more", w, 12, 0, 0, NONE, 1, 1);
        // echoed and no answer, an answer and not echoed
        EchoGorge v = Check.made("sound 50 0;sound 50 1;wall 9 1 1 100 swallows 0;word 0 0;word 1 1;form 0 1;");
        lines("its last word", v, 12, 0, 1, NONE, 1, 1);
        EchoGorge u = Check.made("sound 50 0;sound 50 1;wall 9 1 1 100;word 0 0;word 1 1;form 0 1;");
        lines("itself", u, 12, 1, 0, 2, 0, 1);
    }

    private static void orderOfLines() {
        EchoGorge x = Check.made("sound 50 0;wall 12 1 1 100;word 1 0;word 0 0;word 1 0;word 0 0;form 1 0;form 0;form 0 1 0;");
        int[][] want = {{0, 0, 1, -1}, {0, 0, 3, -1}, {0, 2, 1, -1}, {0, 2, 3, -1}, {1, 1, -1, -1}, {1, 3, -1, -1}, {2, 1, 0, 1},
            {2, 1, 0, 3}, {2, 1, 2, 1}, {2, 1, 2, 3}, {2, 3, 0, 1}, {2, 3, 0, 3}, {2, 3, 2, 1}, {2, 3, 2, 3}};
        CHECK.due("lines", x.count(10), want.length);
        CHECK.due("all answer", x.lines(12, 0), want.length);
        for (int i = 0; i < want.length; i++) {
            for (int what = 0; what < 4; what++) {
                CHECK.due("line(12, " + i + ", " + what + ")", x.line(12, i, what), want[i][what]);
            }
        }
        CHECK.dueThrow("no more", NoSuchElementException.class, () -> x.line(12, want.length, 0));
    }

    private static void likeLinesAreTwo() {
        EchoGorge x = Check.made("sound 50 0;wall 9 1 1 100;word 0 0;word 0 0;word 1 0 0;form 0;form 0;form 0 0;form 1;");
        lines("lines of like sounds", x, 12, 2 + 2 + 4 + 1, 2 + 2 + 1, 1, 0, 2 + 2 + 2 + 1);
        CHECK.due("lines", x.count(10), 9);
    }

    private static void plainestEdges() {
        // the first of like ones: by forms, then by words; fewest sounds ahead of both
        EchoGorge x = Check.made("sound 50 0;wall 12 1 1 100;word 0 0 0;word 1 0;word 1 0;word 0 0;form 0 0;form 1 0;form 1 1;");
        // form 0: 4, 3, 3, 2 sounds; the first of 2 is the last line of form 0
        CHECK.due("of two sounds", x.lines(12, 2), 2);
        CHECK.due("form", x.line(12, -1, 0), 0);
        CHECK.due("words", x.line(12, -1, 1) * 10 + x.line(12, -1, 2), 33);
        CHECK.due("no third", x.line(12, -1, 3), NONE);
        EchoGorge y = Check.made("sound 50 0;wall 12 1 1 100;word 0 0 0;word 1 0;word 1 0;form 0;form 1;");
        CHECK.due("a later form of fewer", y.line(12, -1, 0), 1);
        CHECK.due("its first word", y.line(12, -1, 1), 1);
        // of those that answer alone
        EchoGorge z = Check.made("sound 50 0;sound 50 1;wall 12 1 1 100 swallows 1;word 0 1;word 0 0 0;form 0;");
        lines("the shorter one doesn't answer", z, 12, 1, 1, 2, 1, 2);
        CHECK.due("the other is the plainest", z.line(12, -1, 1), 1);
        // the most sounds that a plainest can have
        EchoGorge w = Check.made("sound 50 0;wall 12 1 1 100;word 0 0 0 0 0;form 0 0 0;");
        CHECK.due("twelve", w.lines(12, 2), 12);
    }

    private static void spoiltEdges() {
        String text = "sound 50 0;sound 50 1;wall 9 1 1 100 swallows 1;word 0 0;word 0 1;word 1 0;word 1 1;form 0 1;form 0;form 1 1 1;";
        EchoGorge x = Check.made(text);
        // form 0: 0 0 alone answers; 0 1 and 1 0 give back 0, the line of form 1; 1 1 nothing
        // form 1: 0; form 2: 0 0 0, those with one 1 by 0 0, with two by 0
        lines("some", x, 12, 3 + 1 + 7, 1 + 1 + 1, 1, 1, 2 + 2 + 2);
        EchoGorge y = Check.made("sound 50 0;word 0 0;word 0 0;form 0;form 0 0;");
        lines("all are spoilt", y, 12, 0, 0, NONE, 4, 4);
        EchoGorge z = Check.made("sound 50 0;wall 9 1 1 100;word 0 0;word 0 0;form 0;form 0 0;");
        lines("none is spoilt", z, 12, 6, 2, 1, 0, 4);
        // one line that answers, the last of its beginning, is enough
        EchoGorge w = Check.made("sound 50 0;sound 50 1;wall 9 1 1 100 swallows 1;word 0 0;word 1 1;word 1 1;word 1 0;form 0 1;");
        lines("the last of three", w, 12, 1, 0, 2, 0, 1);
    }

    private static void kindsWithoutAWord() {
        EchoGorge x = Check.made("sound 50 0;wall 9 1 1 100;word 1 0;word 1 0;form 0;form 0 1;form 1 0;form 1 1 3;form 1 2 1;form 1;");
        CHECK.due("lines of the last form alone", x.count(10), 2);
        lines("forms with a kind that has no word", x, 12, 2, 2, 1, 0, 2);
        CHECK.due("the form of the first", x.line(12, 0, 0), 5);
        CHECK.due("and its word", x.line(12, 1, 1), 1);
        CHECK.due("still", x.still(12, 50), 2);
        CHECK.due("without", x.without(12, 0), 0);
    }

    /** More lines than a number has bits; those of even words alone answer. */
    private static void manyLines() {
        StringBuilder text = new StringBuilder("sound 50 0;sound 50 1;wall 12 1 1 100 swallows 1;");
        for (int word = 0; word < 8; word++) {
            text.append("word 0 ").append(word % 2).append(';');
        }
        EchoGorge x = Check.made(text + "form 0 0;");
        CHECK.due("lines", x.count(10), 64);
        lines("even words", x, 0, 16, 16, 2, 4, 8);
        for (int i = 0; i < 16; i++) {
            CHECK.due("line " + i, x.line(0, i, 1) * 10 + x.line(0, i, 2), i / 4 * 20 + i % 4 * 2);
        }
        CHECK.dueThrow("no seventeenth", NoSuchElementException.class, () -> x.line(0, 16, 0));
        CHECK.due("still", x.still(0, 50), 16);
        CHECK.due("without", x.without(0, 0), 0);
        EchoGorge y = Check.made(text + "form 0 0 0;form 0 0 0;");
        CHECK.due("of 1024", y.lines(0, 0), 128);
        CHECK.due("the 64 of form 1 behind those of form 0", y.line(0, 63, 0) * 10 + y.line(0, 64, 0), 1);
        for (int i = 0; i < 64; i++) {
            int want = i / 16 * 200 + i / 4 % 4 * 20 + i % 4 * 2;
            CHECK.due("line " + i, y.line(0, 64 + i, 1) * 100 + y.line(0, 64 + i, 2) * 10 + y.line(0, 64 + i, 3), want);
        }
        CHECK.due("still", y.still(0, 50), 128);
    }

    private static void mostLinesInTwoHours() {
        EchoGorge x = Check.made("sound 50 0;wall 12 1 1 100;air 1 0;" + "word 0 0 0 0 0;".repeat(8) + "form 0 0 0;".repeat(6));
        CHECK.due("lines", x.count(10), 3072);
        for (int turn = 0; turn < 2; turn++) {
            lines("all", x, 0, 3072, 0, 12, 0, 48);
            lines("none", x, 1, 0, 0, NONE, 48, 48);
            CHECK.due("the last: form", x.line(0, 3071, 0), 5);
            CHECK.due("the last: words", x.line(0, 3071, 1) * 100 + x.line(0, 3071, 2) * 10 + x.line(0, 3071, 3), 777);
            CHECK.due("the first of the last form", x.line(0, 2560, 0) * 10 + x.line(0, 2560, 1), 50);
            CHECK.due("the last of the form ahead of it", x.line(0, 2559, 0) * 10 + x.line(0, 2559, 3), 47);
            CHECK.dueThrow("no more", NoSuchElementException.class, () -> x.line(0, 3072, 0));
            CHECK.dueThrow("none in the other", NoSuchElementException.class, () -> x.line(1, 0, 0));
        }
        CHECK.due("still", x.still(0, 97), 3072);
        CHECK.due("still of none", x.still(1, 0), 0);
    }

    /** Three hours with other lines each: which they are, asked by turns. */
    private static void hoursOfTheirOwn() {
        // 90 comes back as 45, 60 as 30, 30 as 15; by air of 60 as 27, 18, 9; by 40 as 18, 12, 6
        EchoGorge x = Check.made("sound 30 0;sound 60 0;sound 90 0;wall 5 9 9 50;mask 15 0 0;air 5 60;air 23 40;"
                + "word 1 2;word 0 0;word 0 1;word 0 2;form 0;form 1;");
        for (int turn = 0; turn < 2; turn++) {
            lines("noon", x, 12, 4, 4, 1, 0, 4);
            lines("hour 5", x, 5, 3, 3, 1, 1, 4);
            lines("hour 23", x, 23, 2, 2, 1, 2, 4);
            CHECK.due("noon's first", x.line(12, 0, 1), 1);
            CHECK.due("noon's third", x.line(12, 2, 1), 3);
            CHECK.due("noon's last", x.line(12, 3, 0), 1);
            CHECK.due("hour 5's first", x.line(5, 0, 1), 2);
            CHECK.due("hour 5's plainest", x.line(5, NONE, 1), 2);
            CHECK.due("hour 5's last", x.line(5, 2, 1), 0);
            CHECK.due("hour 23's first", x.line(23, 0, 1), 3);
            CHECK.due("hour 23's plainest", x.line(23, NONE, 1), 3);
            CHECK.dueThrow("no third there", NoSuchElementException.class, () -> x.line(23, 2, 0));
            CHECK.due("noon lasts", x.lasts(12), 66);
            CHECK.due("hour 5 lasts", x.lasts(5), 44);
            CHECK.due("hour 23 lasts", x.lasts(23), 14);
            CHECK.due("still at noon", x.still(12, 45), 3);
            CHECK.due("still in hour 5", x.still(5, 44), 2);
            CHECK.due("still in hour 23", x.still(23, 15), 0);
        }
    }

    private static void noneOfAnOlderGorge() {
        String text = "sound 50 0;sound 50 1;wall 5 9 9 100 swallows 1;word 0 0;word 0 0;word 0 0;form 0;";
        EchoGorge x = Check.made(text);
        lines("all three", x, 12, 3, 3, 1, 0, 3);
        for (int i = 0; i < 2; i++) {
            CHECK.due("another", Check.gorge(x, text.replace("word 0 0;word 0 0;word 0 0;", "word 0 1;word 0 1;word 0 0;")), 0);
            lines("the last alone", x, 12, 1, 1, 1, 2, 3);
            CHECK.due("its word", x.line(12, 0, 1), 2);
            CHECK.due("still", x.still(12, 50), 1);
            CHECK.due("all three again", Check.gorge(x, text), 0);
            CHECK.due("the last one", x.line(12, 2, 1), 2);
        }
        EchoGorge y = Check.made("sound 50 0;word 0 0;word 1 0;word 1 0;form 0;");
        // kind 1 has one word now, which is not the first one
        CHECK.due("another", Check.gorge(y, "sound 50 0;wall 9 9 9 100;word 2 0;word 0 0;word 1 0;word 0 0;form 1 0;form 0 1;"), 0);
        int[][] want = {{0, 2, 1}, {0, 2, 3}, {1, 1, 2}, {1, 3, 2}};
        for (int i = 0; i < 4; i++) {
            for (int what = 0; what < 3; what++) {
                CHECK.due("line(12, " + i + ", " + what + ")", y.line(12, i, what), want[i][what]);
            }
        }
    }

    private static void indexOfLines() {
        EchoGorge x = Check.made("sound 50 0;sound 50 1;wall 9 1 1 100 swallows 1;air 3 0;air 4 1;word 0 1;word 0 0;word 0 0;form 0;");
        CHECK.due("the first", x.line(12, 0, 1), 1);
        CHECK.due("the last", x.line(12, 1, 1), 2);
        CHECK.due("none given: the plainest", x.line(12, NONE, 1), 1);
        for (int i : new int[] {-2, 2, 3, Integer.MIN_VALUE, Integer.MAX_VALUE}) {
            for (int what = 0; what < 4; what++) {
                int w = what;
                CHECK.dueThrow("line(12, " + i + ", " + what + ")", NoSuchElementException.class, () -> x.line(12, i, w));
            }
        }
        // in hours in which none answers there is no plainest and no first
        for (int hour : new int[] {3, 4}) {
            CHECK.due("none answers", x.lines(hour, 0), 0);
            CHECK.dueThrow("no plainest", NoSuchElementException.class, () -> x.line(hour, -1, 0));
            CHECK.dueThrow("no first", NoSuchElementException.class, () -> x.line(hour, 0, 0));
        }
    }

    private static void partsOfLines() {
        EchoGorge x = Check.made("sound 50 0;wall 9 1 1 100;word 2 0;form 2;form 2 2;form 2 2 2;");
        for (int form = 0; form < 3; form++) {
            CHECK.due("form", x.line(12, form, 0), form);
            for (int what = 1; what <= 3; what++) {
                CHECK.due("word " + what + " of form " + form, x.line(12, form, what), what <= form + 1 ? 0 : NONE);
            }
            for (int what : new int[] {-1, 4, Integer.MIN_VALUE, Integer.MAX_VALUE}) {
                int f = form;
                CHECK.dueThrow("line(12, " + form + ", " + what + ")", NoSuchElementException.class, () -> x.line(12, f, what));
            }
        }
    }

    /** Each hour of one object, in any order, is as noon of an object with that air at noon. */
    private static void everyHour() {
        String text = "sound 90 0;sound 60 1;sound 30 2;wall 3 9 9 50;wall 5 9 9 40 swallows 0;wall 8 9 9 90 swallows 1 2;mask 9 2 20;"
                + "word 0 0;word 0 1;word 1 2 1;word 1 1;word 2 0 1;form 0;form 1 0;form 2;";
        int[] airs = {100, 80, 60, 55, 50, 45, 40, 35, 30, 25, 20, 15, 10, 5, 0};
        StringBuilder all = new StringBuilder(text);
        for (int i = 0; i < airs.length; i++) {
            all.append("air ").append(hourOf(i)).append(' ').append(airs[i]).append(';');
        }
        EchoGorge x = Check.made(all.toString());
        for (int i = 0; i < airs.length; i++) {
            int hour = hourOf(i);
            EchoGorge noon = Check.made(text + "air 12 " + airs[i] + ";");
            String what = "air " + airs[i] + " in hour " + hour;
            lines(what, x, hour, noon.lines(12, 0), noon.lines(12, 1), noon.lines(12, 2), noon.lines(12, 3), noon.lines(12, 4));
            CHECK.due(what + ": still", x.still(hour, 30), noon.still(12, 30));
            CHECK.due(what + ": without 0", x.without(hour, 0), noon.without(12, 0));
            CHECK.due(what + ": without 2", x.without(hour, 2), noon.without(12, 2));
            CHECK.due(what + ": lasts", x.lasts(hour), noon.lasts(12));
            for (int k = -1; k < 3; k++) {
                int at = k;
                CHECK.due(what + ": line " + k, Check.outcome(() -> x.line(hour, at, 0)), Check.outcome(() -> noon.line(12, at, 0)));
                CHECK.due(what + ": its word", Check.outcome(() -> x.line(hour, at, 1)), Check.outcome(() -> noon.line(12, at, 1)));
            }
            CHECK.due(what + ": the tick of a return", x.loud(0, hour, 3, 0), 0);
        }
        // and once more, behind all others
        for (int i = 0; i < airs.length; i++) {
            CHECK.due("again hour " + hourOf(i), x.lines(hourOf(i), 0), Check.made(text + "air 12 " + airs[i] + ";").lines(12, 0));
        }
    }

    private static int hourOf(int i) {
        return i * 7 % 24;
    }

    private static void fogOnBothSides() {
        EchoGorge x = Check.made("sound 99 0;wall 1 1 1 100;air 5 1;mask 50 0 0;word 0 0;form 0;");
        // 99 by 51 is 50, by 50 is 49
        int[] fogs = {0, 1, 48, 49, 50, 51, 99, 100};
        int[] want = {1, 1, 1, 1, 0, 0, 0, 0};
        for (int i = 0; i < fogs.length; i++) {
            CHECK.due("still(12, " + fogs[i] + ")", x.still(12, fogs[i]), want[i]);
            CHECK.due("still(5, " + fogs[i] + ")", x.still(5, fogs[i]), 0);
        }
        CHECK.due("lasts", x.lasts(12), 49);
        for (int fog : new int[] {-1, 101, Integer.MIN_VALUE, Integer.MAX_VALUE}) {
            CHECK.dueThrow("fog " + fog, IllegalArgumentException.class, () -> x.still(12, fog));
            CHECK.dueThrow("fog " + fog + " without lines", IllegalArgumentException.class, () -> new EchoGorge().still(0, fog));
            CHECK.dueThrow("hour ahead of fog " + fog, NoSuchElementException.class, () -> x.still(24, fog));
            CHECK.dueThrow("hour ahead of fog " + fog, NoSuchElementException.class, () -> x.still(-1, fog));
        }
        // a share is cut down: 1 in a fog of 1 is 0; 3 in a fog of 33 is 2, of 34 is 1
        EchoGorge y = Check.made("sound 99 0;wall 1 1 1 2;word 0 0;form 0;");
        CHECK.due("2 by 99 is 1", y.still(12, 0) * 10 + y.still(12, 1), 10);
        CHECK.due("lasts not at all", y.lasts(12), 0);
        EchoGorge z = Check.made("sound 50 0;wall 1 1 1 3;word 0 0;form 0;");
        CHECK.due("3 by 67 is 2", z.still(12, 33), 1);
        CHECK.due("3 by 66 is 1", z.still(12, 34), 0);
        CHECK.due("lasts", z.lasts(12), 33);
        // the line of the first form doesn't answer, those of the second and the fourth do
        EchoGorge v = Check.made("sound 90 0;sound 40 1;sound 60 2;wall 5 1 1 50 swallows 1;mask 20 0 0;word 0 1;word 1 0;word 2 2;"
                + "form 0;form 1;form 3;form 2;");
        CHECK.due("now two", v.lines(12, 0), 2);
        CHECK.due("60 by 34 is 20", v.still(12, 32), 2);
        CHECK.due("60 by 33 is 19", v.still(12, 33), 1);
        CHECK.due("90 by 23 is 20", v.still(12, 54), 1);
        CHECK.due("90 by 22 is 19", v.still(12, 55), 0);
        CHECK.due("lasts", v.lasts(12), 54);
        CHECK.due("without", v.without(12, 0), 0);
        // each of the two: the share itself, then each return by it
        EchoGorge w = Check.made("sound 90 0;wall 1 1 1 90 again 2;word 0 0;form 0;word 1 0 0;form 1;mask 20 0 0;");
        // 0 returns 81 and 72: 0 0, a line; in a fog of 50 40 and 18: 0
        CHECK.due("by 45 once", w.still(12, 50) > 0, true);
        CHECK.due("the fog is not in the gorge", w.wall(0, 3), 90);
        CHECK.due("lines as they were", w.lines(12, 0), Check.made("sound 90 0;wall 1 1 1 90 again 2;word 0 0;form 0;word 1 0 0;"
                + "form 1;mask 20 0 0;").lines(12, 0));
    }

    /**
     * 0 0 comes back by three walls as six sounds, which are a line; without the third's returns four,
     * which are none; without the second's two. A line of six does alike, but its returns come together.
     */
    private static void fogThatHelps() {
        EchoGorge x = Check.made("sound 50 0;wall 2 1 1 100;wall 4 1 1 60;wall 6 1 1 20;mask 10 0 0;word 0 0 0;word 1 0 0 0;"
                + "form 0;form 1 1;");
        int[] fogs = {0, 1, 66, 67, 73, 74, 80, 81, 88, 89, 100};
        int[] want = {2, 0, 0, 1, 1, 2, 2, 1, 1, 0, 0};
        for (int i = 0; i < fogs.length; i++) {
            CHECK.due("still(12, " + fogs[i] + ")", x.still(12, fogs[i]), want[i]);
        }
        CHECK.due("lasts", x.lasts(12), 88);
        CHECK.due("lasts again", x.lasts(12), 88);
        CHECK.due("the line of two is the plainest", x.lines(12, 2), 2);
        CHECK.due("without the third four come back", x.without(12, 2), 0);
        // without the second the line of six has six behind it, by the third alone
        CHECK.due("without the second one does", x.without(12, 1), 1);
    }

    private static void lastsEdges() {
        // the fog of 98 leaves 2 of 100, 99 by 2 is 1; of 99 nothing is left
        EchoGorge x = Check.made("sound 99 0;wall 1 1 1 100;word 0 0;form 0;");
        CHECK.due("lasts", x.lasts(12), 98);
        CHECK.due("still there", x.still(12, 98), 1);
        CHECK.due("not behind it", x.still(12, 99), 0);
        EchoGorge y = Check.made("sound 99 0;wall 1 1 1 100;mask 98 0 0;word 0 0;form 0;");
        CHECK.due("lasts 1", y.lasts(12), 1);
        EchoGorge z = Check.made("sound 99 0;wall 1 1 1 100;mask 99 0 0;word 0 0;form 0;");
        CHECK.due("lasts 0", z.lasts(12), 0);
        EchoGorge w = Check.made("sound 99 0;wall 1 1 1 100;air 3 98;mask 99 0 0;word 0 0;form 0;");
        CHECK.due("none answers now", w.lasts(3), NONE);
        // a line that would answer in a fog and doesn't now is none of those
        EchoGorge v = Check.made("sound 50 0;wall 3 1 1 50;wall 5 1 1 20;mask 10 0 0;word 0 0;form 0;");
        CHECK.due("not now", v.lasts(12), NONE);
        CHECK.due("nor still", v.still(12, 1), 0);
        // of two sounds the louder lasts longer
        EchoGorge u = Check.made("sound 20 0;sound 90 0;wall 1 1 1 50;mask 10 0 0;word 0 0;word 0 1;form 0;");
        CHECK.due("the quiet one not at all", u.still(12, 1), 1);
        CHECK.due("90 by 12 is 10", u.lasts(12), 76);
        // two returns that are too thin each would be loud enough together, but they don't come together: 0 answers by 0 0
        EchoGorge s = Check.made("sound 50 0;wall 3 9 9 50;wall 5 9 9 50;mask 20 0 0;word 0 0;form 0;form 0 0;");
        CHECK.due("0 alone", s.lines(12, 0), 1);
        CHECK.due("apart: 50 by 40 is 20", s.lasts(12), 20);
        // and so does one that comes by several walls at one tick: 9 by each of two in a fog of 80
        EchoGorge t = Check.made("sound 90 0;wall 1 1 1 50;wall 1 1 1 50;mask 18 0 0;word 0 0;form 0;");
        CHECK.due("together", t.lasts(12), 80);
    }

    /** Two walls of one delay: none of their returns is loud enough, nor is the sound itself, but both together are. */
    private static void lastsTogether() {
        String walls = "wall 1 9 9 100 swallows 1;wall 1 9 9 100 swallows 1;";
        // 50 by 99 and by 98 is 49, by 97 is 48
        EchoGorge x = Check.made("sound 50 0;" + walls + "mask 99 0 0;word 0 0;form 0;");
        lines("50 and 50", x, 12, 1, 1, 1, 0, 1);
        CHECK.due("still", x.still(12, 1), 0);
        CHECK.due("not in any fog", x.lasts(12), 0);
        EchoGorge y = Check.made("sound 50 0;" + walls + "mask 98 0 0;word 0 0;form 0;");
        CHECK.due("49 and 49", y.lasts(12), 2);
        CHECK.due("still in a fog of 2, not of 3", y.still(12, 2) * 10 + y.still(12, 3), 10);
        // the second sound, the first one being swallowed
        EchoGorge z = Check.made("sound 50 1;sound 50 0;" + walls + "mask 98 0 0;word 0 1;form 0;");
        CHECK.due("of the second sound", z.lasts(12), 2);
        EchoGorge w = Check.made("sound 50 1;".repeat(7) + "sound 50 0;" + walls + "mask 98 0 0;word 0 7;form 0;");
        CHECK.due("of the eighth sound", w.lasts(12), 2);
    }

    /** Six walls, 18 returns each at a tick of its own: of the one sound comes that eighteen times, which is no line. */
    private static void lastsOfMostWays() {
        StringBuilder walls = new StringBuilder();
        for (int delay : new int[] {37, 38, 39, 40, 31, 29}) {
            walls.append("wall ").append(delay).append(" 9 9 50 again 3;");
        }
        // by 50 of 90 comes 45, then 22, then 11: those of 40 and more are six, a line of three words of two
        EchoGorge x = Check.made("sound 90 0;" + walls + "mask 40 0 0;word 0 0;word 1 0 0;form 0;form 1 1 1;");
        CHECK.due("0 answers by the six", x.line(12, 0, 0), 0);
        // a share of 45 leaves 40, of 44 39
        CHECK.due("lasts", x.lasts(12), 10);
        CHECK.due("still", x.still(12, 10) * 10 + x.still(12, 11), 10);
        CHECK.due("without one five are no line", x.without(12, 5), 0);
        // the least as loud as the first returns: none lasts at all, and no fog is left out of the search
        EchoGorge y = Check.made("sound 90 0;" + walls + "mask 45 0 0;word 0 0;word 1 0 0;form 0;form 1 1 1;");
        CHECK.due("lasts not at all", y.lasts(12), 0);
    }

    private static void withoutEdges() {
        StringBuilder text = new StringBuilder("sound 50 0;sound 50 1;sound 50 2;sound 50 3;");
        String[] swallowed = {"1 2 3", "0 2 3", "0 1 3", "0 1 2", "0 1 2 3", "0 1 2 3"};
        for (int wall = 0; wall < 6; wall++) {
            text.append("wall ").append(wall + 1).append(" 9 9 100 swallows ").append(swallowed[wall]).append(';');
        }
        EchoGorge x = Check.made(text + "word 0 0;word 0 1;word 0 2;word 0 3;form 0;air 7 1;");
        CHECK.due("now", x.lines(12, 0), 4);
        int[] want = {3, 3, 3, 3, 4, 4};
        for (int wall = 0; wall < 6; wall++) {
            CHECK.due("without wall " + wall, x.without(12, wall), want[wall]);
            CHECK.due("in an hour without air", x.without(7, wall), 0);
        }
        for (int wall : new int[] {-1, 6, Integer.MIN_VALUE, Integer.MAX_VALUE}) {
            CHECK.dueThrow("without wall " + wall, NoSuchElementException.class, () -> x.without(12, wall));
            CHECK.dueThrow("no walls", NoSuchElementException.class, () -> new EchoGorge().without(12, wall));
        }
        CHECK.dueThrow("no wall 0", NoSuchElementException.class, () -> new EchoGorge().without(12, 0));
        CHECK.due("the wall is there again", x.lines(12, 0), 4);
        CHECK.due("as it was", x.wall(0, 3), 100);
        // of a wall that is in the way nothing is told: those that answer now alone count
        EchoGorge y = Check.made("sound 50 0;wall 3 9 9 100;wall 5 9 9 100;word 0 0;form 0;");
        CHECK.due("none now", y.lines(12, 0), 0);
        CHECK.due("without one it would", y.without(12, 0), 0);
        // the only wall
        EchoGorge z = Check.made("sound 50 0;wall 3 9 9 100;word 0 0;form 0;");
        CHECK.due("without the only wall", z.without(12, 0), 0);
    }

    /** By the delays to ear 1 or 2 the lines would not answer. */
    private static void earZeroAlone() {
        EchoGorge x = Check.made("sound 50 0;wall 2 1 1 100;wall 4 4 5 100 swallows 0 1 2 3;straight 3 4;word 0 0 0;form 0;");
        lines("ear 0", x, 12, 1, 1, 2, 0, 1);
        CHECK.due("still", x.still(12, 50), 1);
        CHECK.due("without", x.without(12, 1), 1);
        CHECK.due("lasts", x.lasts(12), 98);
        x.say(0, 0);
        CHECK.due("ear 1 hears", x.heard(1, 12, 1), 0);
        CHECK.due("still, behind that", x.still(12, 50), 1);
        CHECK.due("without, behind that", x.without(12, 1), 1);
    }

    private static void nothingElseSaid() {
        EchoGorge x = Check.made("sound 50 0;sound 50 1;wall 2 1 1 100;word 0 0;form 0;");
        for (int tick = 0; tick < 10; tick++) {
            x.say(1, tick);
            x.sing(tick, 1);
            x.tell(1);
        }
        x.stand(0, 9, 9);
        lines("with nothing else", x, 12, 1, 1, 1, 0, 1);
        CHECK.due("still", x.still(12, 90), 1);
    }

    private static void wrongInputs() {
        EchoGorge x = Check.made("sound 50 0;wall 2 1 1 100;word 0 0;form 0;");
        for (EchoGorge one : new EchoGorge[] {x, new EchoGorge()}) {
            for (int wrong : new int[] {-1, 24, Integer.MIN_VALUE, Integer.MAX_VALUE}) {
                CHECK.dueThrow("lines(" + wrong + ", 0)", NoSuchElementException.class, () -> one.lines(wrong, 0));
                CHECK.dueThrow("lines(" + wrong + ", 4)", NoSuchElementException.class, () -> one.lines(wrong, 4));
                CHECK.dueThrow("line(" + wrong + ", 0, 0)", NoSuchElementException.class, () -> one.line(wrong, 0, 0));
                CHECK.dueThrow("still(" + wrong + ", 0)", NoSuchElementException.class, () -> one.still(wrong, 0));
                CHECK.dueThrow("without(" + wrong + ", 0)", NoSuchElementException.class, () -> one.without(wrong, 0));
                CHECK.dueThrow("lasts(" + wrong + ")", NoSuchElementException.class, () -> one.lasts(wrong));
            }
            for (int what : new int[] {-1, 5, Integer.MIN_VALUE, Integer.MAX_VALUE}) {
                CHECK.dueThrow("lines(0, " + what + ")", NoSuchElementException.class, () -> one.lines(0, what));
                CHECK.dueThrow("lines(23, " + what + ")", NoSuchElementException.class, () -> one.lines(23, what));
            }
        }
        lines("the first hour", x, 0, 1, 1, 1, 0, 1);
        lines("the last hour", x, 23, 1, 1, 1, 0, 1);
        CHECK.due("no status of it", x.count(7) + x.count(8) + x.count(9), 0);
    }
}
