import java.util.NoSuchElementException;

/** Promises 1 to 7: a new object, feed, gorge, fault, count, wall, word. */
public final class TextTest {
    private static final Check CHECK = new Check();

    public static void main(String[] args) {
        newObject();
        feed();
        gorgeAndTape();
        gorgeAllAnew();
        tokens();
        soundLines();
        wallLines();
        oneTimeLines();
        sweetLines();
        wordAndFormLines();
        tooMany();
        count();
        wall();
        word();
        CHECK.end();
    }

    private static void newObject() {
        EchoGorge x = new EchoGorge();
        for (int what = 0; what <= 10; what++) {
            CHECK.due("new count " + what, x.count(what), 0);
        }
        CHECK.due("new fault", x.fault(), EchoGorge.NONE);
        CHECK.due("new heard", x.heard(2, 23, 399), EchoGorge.NONE);
        CHECK.due("new round", x.round(2), 0);
        CHECK.due("new matching", x.matching(0, 0, 960), 960);
        CHECK.due("new restore", x.restore(), false);
        CHECK.dueThrow("new loud", NoSuchElementException.class, () -> x.loud(0, 0, 0, 0));
        CHECK.dueThrow("new say", NoSuchElementException.class, () -> x.say(0, 0));
        CHECK.dueThrow("new without", NoSuchElementException.class, () -> x.without(0, 0));
        CHECK.dueThrow("new line", NoSuchElementException.class, () -> x.line(0, -1, 0));
    }

    private static void feed() {
        EchoGorge x = new EchoGorge();
        for (int fed = 20; fed <= 700; fed += 20) {
            CHECK.due("feed", x.feed(0, 0, 0, 0, 0), fed);
        }
        CHECK.due("feed beyond 700", x.feed(1, 1, 1, 1, 1), EchoGorge.NONE);
        CHECK.due("tape", x.count(6), 700);
        CHECK.due("no status of feed", x.count(7) + x.count(8) + x.count(9), 0);
        CHECK.due("gorge(700)", x.gorge(700), 1);
        // the highest byte of each number comes first: "sound 12 3;" and blanks
        x.feed(0x736f756e, 0x64203132, 0x20333b20, 0x20202020, 0x20202020);
        CHECK.due("gorge(20)", x.gorge(20), 0);
        CHECK.due("its sound", x.count(0), 1);
        // a highest byte above 127
        x.feed(0xe9202020, 0x20202020, 0x20202020, 0x20202020, 0x20202020);
        CHECK.due("gorge of byte 233", x.gorge(1), 1);
        CHECK.due("its place", x.fault(), 0);
    }

    private static void gorgeAndTape() {
        EchoGorge x = new EchoGorge();
        CHECK.due("gorge(0) of an empty tape", x.gorge(0), 0);
        Check.feed(x, "sound 5 0;sound 6 1;");
        CHECK.dueThrow("gorge(21)", IllegalArgumentException.class, () -> x.gorge(21));
        CHECK.dueThrow("gorge(-1)", IllegalArgumentException.class, () -> x.gorge(-1));
        CHECK.dueThrow("gorge(least)", IllegalArgumentException.class, () -> x.gorge(Integer.MIN_VALUE));
        CHECK.dueThrow("gorge(most)", IllegalArgumentException.class, () -> x.gorge(Integer.MAX_VALUE));
        CHECK.due("nothing changed", x.count(6), 20);
        CHECK.due("gorge(10)", x.gorge(10), 0);
        CHECK.due("the first bytes alone", x.count(0), 1);
        CHECK.due("the tape is empty", x.count(6), 0);
        CHECK.due("gorge with a fault", Check.gorge(x, "wall 1 1 1 1;sound 5;"), 1);
        CHECK.due("the tape is empty then too", x.count(6), 0);
        CHECK.due("its place", x.fault(), 20);
        CHECK.due("the sound stayed", x.count(0), 1);
        CHECK.due("no wall came", x.count(1), 0);
        CHECK.dueThrow("gorge(1)", IllegalArgumentException.class, () -> x.gorge(1));
        CHECK.due("the fault stays with an exception", x.fault(), 20);
        CHECK.due("status", x.count(7), 1);
        CHECK.due("gorge without fault", x.gorge(0), 0);
        CHECK.due("no fault", x.fault(), EchoGorge.NONE);
        CHECK.due("status stays", x.count(7), 1);
        CHECK.due("all anew", x.count(0), 0);
    }

    private static void gorgeAllAnew() {
        EchoGorge x = Check.made("sound 50 0;sound 40 1;wall 3 3 3 50;mask 9 9 9;straight 4 5;air 12 10;sweet 0 1;"
                + "word 0 0;form 0;");
        x.say(0, 0);
        x.tell(0);
        x.sing(0, 0);
        x.sing(1, 1);
        x.stand(1, 5, 5);
        x.image();
        CHECK.due("a fault", Check.gorge(x, "x"), 1);
        CHECK.due("said stays", x.count(4), 1);
        CHECK.due("told stays", x.count(5), 1);
        CHECK.due("the round stays", x.round(2), 2);
        CHECK.due("the ears stay", x.matching(0, 0, -1) < 961, true);
        CHECK.due("the image stays", x.restore(), true);
        x.say(0, 0);
        CHECK.due("anew", Check.gorge(x, "sound 50 0;sound 40 1;wall 1 1 1 50;word 0 0;"), 0);
        CHECK.due("said is gone", x.count(4), 0);
        CHECK.due("told is gone", x.count(5), 0);
        CHECK.due("the round is gone", x.round(2), 0);
        CHECK.due("the ears are at 0, 0", x.matching(0, 0, -1), 961);
        CHECK.due("the image is gone", x.restore(), false);
        CHECK.due("status stays", x.count(7) * 10 + x.count(8), 11);
        CHECK.due("no form", x.count(3), 0);
        x.say(0, 0);
        CHECK.due("straight anew", x.loud(1, 12, 0, 0), 50);
        CHECK.due("air and mask anew", x.heard(0, 12, 1), 0);
        x.sing(0, 0);
        x.sing(1, 1);
        CHECK.due("sweet anew", x.round(0), 2);
    }

    /** A text, its fault (0: none) and the place of it. */
    private static void text(String text, int fault, int place) {
        EchoGorge x = new EchoGorge();
        CHECK.due("gorge of \"" + text + "\"", Check.gorge(x, text), fault);
        CHECK.due("fault() of \"" + text + "\"", x.fault(), fault == 0 ? EchoGorge.NONE : place);
        CHECK.due("status of \"" + text + "\"", x.count(7), fault == 0 ? 0 : 1);
    }

    private static void fine(String text) {
        text(text, 0, 0);
    }

    private static void tokens() {
        fine("");
        fine(" \n ");
        fine("sound 5 0;");
        fine(" sound\n5 0 ; \n");
        fine("sound5 0;sound 6 1;");
        text("sound", 1, 5);
        text("sound  ", 1, 7);
        text("sound 5", 1, 7);
        text("sound 5 0", 1, 9);
        text("sound 5 0\n\n", 1, 11);
        text("sound 5 0;;", 1, 10);
        text(";", 1, 0);
        text("5", 1, 0);
        text("12345", 1, 0);
        text(" foo", 1, 1);
        text("Sound 5 0;", 1, 0);
        text("sounds 5 0;", 1, 0);
        text("soun d 5 0;", 1, 0);
        text("bound 5 0;", 1, 0);
        text("soune 5 0;", 1, 0);
        text("wallz 1 1 1 1;", 1, 0);
        text("awall 1 1 1 1;", 1, 0);
        text("sound\t5 0;", 1, 5);
        text("sound 5\r0;", 1, 7);
        text("sound 5 0;\0", 1, 10);
        text("sound -5 0;", 1, 6);
        text("sound 5a 0;", 1, 7);
        text("sound 5 sound;", 1, 8);
        text("swallows 1;", 1, 0);
        text("again 1;", 1, 0);
    }

    private static void soundLines() {
        fine("sound 1 0;sound 99 3;sound 0001 0003;");
        text("sound 0 0;", 2, 6);
        text("sound 100 0;", 2, 6);
        text("sound 12345 0;", 2, 6);
        text("sound 00005 0;", 2, 6);
        text("sound 99999999999999999999 0;", 2, 6);
        text("sound 5 4;", 2, 8);
        text("sound 5 0 0;", 1, 10);
        text("sound ;", 1, 6);
        text("sound 0 4 x", 2, 6);
    }

    private static void wallLines() {
        fine("wall 1 40 1 0;wall 40 1 40 100;");
        fine("wall 1 2 3 4 swallows 3 1 0 2 again 3;");
        fine("wall 1 2 3 4again 1;wall 1 2 3 4swallows0again2;");
        text("wall 0 1 1 1;", 2, 5);
        text("wall 1 41 1 1;", 2, 7);
        text("wall 1 1 0 1;", 2, 9);
        text("wall 1 1 1 101;", 2, 11);
        text("wall 1 1 1;", 1, 10);
        text("wall 1 1 1 1 1;", 1, 13);
        text("wall 1 1 1 1 swallow 1;", 1, 13);
        text("wall 1 1 1 1 swallows;", 1, 21);
        text("wall 1 1 1 1 swallows again 1;", 1, 22);
        text("wall 1 1 1 1 swallows 4;", 2, 22);
        text("wall 1 1 1 1 swallows 1 1;", 4, 24);
        text("wall 1 1 1 1 swallows 1 01;", 4, 24);
        text("wall 1 1 1 1 swallows 0 1 2 3 0;", 4, 30);
        text("wall 1 1 1 1 swallows 0 1 2 3 4;", 2, 30);
        text("wall 1 1 1 1 swallows 0 swallows 1;", 1, 24);
        text("wall 1 1 1 1 again;", 1, 18);
        text("wall 1 1 1 1 again 0;", 2, 19);
        text("wall 1 1 1 1 again 4;", 2, 19);
        text("wall 1 1 1 1 again 2 3;", 1, 21);
        text("wall 1 1 1 1 again 2 swallows 1;", 1, 21);
        text("wall 1 1 1 1 again 2 again 2;", 1, 21);
    }

    private static void oneTimeLines() {
        fine("straight 0 40;");
        text("straight 41 0;", 2, 9);
        text("straight 0 41;", 2, 11);
        text("straight 1;", 1, 10);
        text("straight 1 1 1;", 1, 13);
        text("straight 1 1;straight;", 5, 13);
        fine("air 0 0;air 23 100;");
        text("air 24 0;", 2, 4);
        text("air 0 101;", 2, 6);
        text("air 0;", 1, 5);
        text("air 5 5;air 5 x;", 5, 12);
        text("air 5 5;air 05 5;", 5, 12);
        fine("mask 1 0 0;");
        fine("mask 99 9 99;");
        text("mask 0 0 0;", 2, 5);
        text("mask 100 0 0;", 2, 5);
        text("mask 1 10 0;", 2, 7);
        text("mask 1 0 100;", 2, 9);
        text("mask 1 0;", 1, 8);
        text("mask 1 0 0;mask 1 0 0;", 5, 11);
    }

    private static void sweetLines() {
        fine("sound 5 0;sound 5 0;sweet 0 1;sweet 1 0;sweet 0 1;");
        text("sweet 0 0;", 3, 6);
        text("sound 5 0;sweet 0 1;", 3, 18);
        text("sound 5 0;sweet 1 0;", 3, 16);
        text("sound 5 0;sweet 9999 0;", 3, 16);
        text("sound 5 0;sweet 10000 0;", 2, 16);
        text("sound 5 0;sweet 0 0;", 4, 18);
        text("sound 5 0;sweet 0;", 1, 17);
        text("sweet 0 1;sound 5 0;sound 5 0;", 3, 6);
    }

    private static void wordAndFormLines() {
        fine("sound 5 0;word 0 0;word 3 0 0 0 0;");
        text("word 0;", 1, 6);
        text("word;", 1, 4);
        text("word 4 0;", 2, 5);
        text("word 0 0;", 3, 7);
        text("sound 5 0;word 0 0 1;", 3, 19);
        text("sound 5 0;word 0 0 0 0 0 0;", 2, 25);
        text("sound 5 0;word 0 0 0 0 0 9;", 2, 25);
        text("sound 5 0;word 0 0 0 0 0 x;", 1, 25);
        text("sound 5 0;word 0 12345;", 2, 17);
        fine("form 0;form 1 2 3;form 0 0 0;");
        text("form;", 1, 4);
        text("form 4;", 2, 5);
        text("form 0 1 4;", 2, 9);
        text("form 0 1 2 3;", 2, 11);
        text("form 0 1 2 99999;", 2, 11);
        text("form 0 1 2 x;", 1, 11);
    }

    private static void tooMany() {
        fine("sound 5 0;".repeat(8));
        text("sound 5 0;".repeat(8) + " sound 5 0;", 2, 81);
        text("sound 5 0;".repeat(8) + "sound", 2, 80);
        fine("wall 1 1 1 1;".repeat(6));
        text("wall 1 1 1 1;".repeat(6) + "wall 0", 2, 78);
        fine("sound 5 0;" + "word 0 0;".repeat(8));
        text("sound 5 0;" + "word 0 0;".repeat(8) + "word 0 1;", 2, 82);
        fine("form 0;".repeat(6));
        text("form 0;".repeat(6) + "form 0;", 2, 42);
        fine("sound 5 0;" + "straight 1 1;" + " ".repeat(677));
    }

    private static void count() {
        EchoGorge x = Check.made("sound 5 0;sound 6 0;sound 7 1;wall 1 1 1 1;wall 2 2 2 2;word 0 0;word 0 1;word 1 2;"
                + "form 0 1;form 1;form 0 0 0;form 2;form 0 2;");
        CHECK.due("sounds", x.count(0), 3);
        CHECK.due("walls", x.count(1), 2);
        CHECK.due("words", x.count(2), 3);
        CHECK.due("forms", x.count(3), 5);
        CHECK.due("lines: 2, 1, 8, 0, 0", x.count(10), 11);
        x.say(0, 5);
        x.say(1, 5);
        x.tell(-1);
        x.feed(0, 0, 0, 0, 0);
        CHECK.due("said", x.count(4), 2);
        CHECK.due("told", x.count(5), 1);
        CHECK.due("tape", x.count(6), 20);
        x.say(1, 5);
        CHECK.due("refused of the said", x.count(8), 1);
        x.gorge(1);
        x.gorge(0);
        CHECK.due("refused of texts", x.count(7), 1);
        CHECK.dueThrow("count(-1)", NoSuchElementException.class, () -> x.count(-1));
        CHECK.dueThrow("count(11)", NoSuchElementException.class, () -> x.count(11));
        CHECK.due("most lines", Check.made("sound 5 0;" + "word 0 0;".repeat(8) + "form 0 0 0;".repeat(6)).count(10), 3072);
    }

    private static void wall() {
        EchoGorge x = Check.made("wall 1 2 3 4;wall 40 30 20 100 swallows 3 0 again 3;");
        int[] want = {1, 2, 3, 4, 0, 1, 40, 30, 20, 100, 9, 3};
        for (int i = 0; i < 12; i++) {
            CHECK.due("wall(" + i / 6 + ", " + i % 6 + ")", x.wall(i / 6, i % 6), want[i]);
        }
        CHECK.dueThrow("wall(0, 6)", NoSuchElementException.class, () -> x.wall(0, 6));
        CHECK.dueThrow("wall(0, -1)", NoSuchElementException.class, () -> x.wall(0, -1));
        CHECK.dueThrow("wall(2, 0)", NoSuchElementException.class, () -> x.wall(2, 0));
        CHECK.dueThrow("wall(-1, 0)", NoSuchElementException.class, () -> x.wall(-1, 0));
        CHECK.due("fewer walls", Check.gorge(x, "wall 7 7 7 7;"), 0);
        CHECK.due("what an older wall had is gone", x.wall(0, 4) * 10 + x.wall(0, 5), 1);
        CHECK.dueThrow("no wall 1 any more", NoSuchElementException.class, () -> x.wall(1, 0));
    }

    private static void word() {
        EchoGorge x = Check.made("sound 5 0;sound 6 0;word 3 1 0 1 1;word 1 0;");
        int[] want = {3, 4, 1, 0, 1, 1};
        for (int what = 0; what < 6; what++) {
            CHECK.due("word(0, " + what + ")", x.word(0, what), want[what]);
        }
        CHECK.due("word(1, 1)", x.word(1, 1), 1);
        CHECK.due("word(1, 2)", x.word(1, 2), 0);
        CHECK.dueThrow("word(1, 3)", NoSuchElementException.class, () -> x.word(1, 3));
        CHECK.dueThrow("word(0, 6)", NoSuchElementException.class, () -> x.word(0, 6));
        CHECK.dueThrow("word(0, -1)", NoSuchElementException.class, () -> x.word(0, -1));
        CHECK.dueThrow("word(0, most)", NoSuchElementException.class, () -> x.word(0, Integer.MAX_VALUE));
        CHECK.dueThrow("word(2, 0)", NoSuchElementException.class, () -> x.word(2, 0));
        CHECK.dueThrow("word(-1, 0)", NoSuchElementException.class, () -> x.word(-1, 0));
    }
}
