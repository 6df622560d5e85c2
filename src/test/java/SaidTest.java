import java.util.NoSuchElementException;

/** Promises 8 to 11: say, hush, heard, loud. */
public final class SaidTest {
    private static final Check CHECK = new Check();

    public static void main(String[] args) {
        say();
        hush();
        ways();
        cutDown();
        likeLoud();
        mask();
        wrongInputs();
        CHECK.end();
    }

    private static void say() {
        EchoGorge x = Check.made("sound 5 0;sound 6 0;");
        CHECK.due("say(0, 0)", x.say(0, 0), 1);
        CHECK.due("another sound then", x.say(1, 0), 2);
        CHECK.due("the same again", x.say(0, 0), EchoGorge.NONE);
        CHECK.due("tick -1", x.say(0, -1), EchoGorge.NONE);
        CHECK.due("tick 200", x.say(0, 200), EchoGorge.NONE);
        CHECK.due("tick most", x.say(0, Integer.MAX_VALUE), EchoGorge.NONE);
        CHECK.due("tick 199", x.say(0, 199), 3);
        CHECK.due("status", x.count(8), 4);
        CHECK.dueThrow("no such sound, ahead of the tick", NoSuchElementException.class, () -> x.say(2, 200));
        CHECK.dueThrow("sound -1", NoSuchElementException.class, () -> x.say(-1, 0));
        CHECK.due("status without exceptions", x.count(8), 4);
        EchoGorge y = Check.made("sound 5 0;sound 6 0;");
        for (int i = 0; i < 200; i++) {
            CHECK.due("say " + i, y.say(i % 2, i / 2 + 50), i + 1);
        }
        CHECK.due("the 201st", y.say(0, 0), EchoGorge.NONE);
        CHECK.due("status", y.count(8), 1);
        CHECK.due("200 are said", y.count(4), 200);
        CHECK.dueThrow("no such sound, ahead of 200", NoSuchElementException.class, () -> y.say(2, 0));
    }

    private static void hush() {
        EchoGorge x = Check.made("sound 5 0;");
        CHECK.due("hush of nothing", x.hush(), 0);
        x.say(0, 3);
        x.say(0, 4);
        CHECK.due("hush of two", x.hush(), 2);
        CHECK.due("nothing is heard", x.heard(0, 12, 3), EchoGorge.NONE);
        CHECK.due("nothing is said", x.count(4), 0);
        CHECK.due("it can be said again", x.say(0, 3), 1);
    }

    private static void ways() {
        EchoGorge x = Check.made("sound 80 0;sound 60 1;wall 3 5 7 50 swallows 1 again 3;wall 9 1 40 100;straight 2 40;");
        x.say(0, 10);
        x.say(1, 10);
        CHECK.due("straight to ear 0", x.loud(0, 12, 10, 0), 80);
        CHECK.due("straight to ear 1", x.loud(1, 12, 12, 0), 80);
        CHECK.due("straight to ear 2, and by wall 1", x.loud(2, 12, 50, 0), 160);
        CHECK.due("first return", x.loud(0, 12, 13, 0), 40);
        CHECK.due("second return", x.loud(0, 12, 16, 0), 20);
        CHECK.due("third return and the other wall", x.loud(0, 12, 19, 0), 90);
        CHECK.due("swallowed", x.loud(0, 12, 13, 1), 0);
        CHECK.due("not by the other wall", x.loud(0, 12, 19, 1), 60);
        CHECK.due("no fourth return", x.loud(0, 12, 22, 0), 0);
        CHECK.due("second return of wall 0 at ear 1", x.loud(1, 12, 20, 0), 20);
        CHECK.due("nothing ahead of it", x.loud(1, 12, 10, 0), 0);
        CHECK.due("heard: the louder", x.heard(0, 12, 19), 0);
        CHECK.due("heard at ear 2", x.heard(2, 12, 17), 0);
        x.say(0, 199);
        CHECK.due("the last tick's return", x.loud(2, 12, 239, 0), 160);
        CHECK.due("nothing at 399", x.heard(0, 12, 399), EchoGorge.NONE);
        EchoGorge far = Check.made("sound 99 0;wall 40 40 40 100 again 3;");
        far.say(0, 199);
        CHECK.due("the latest that can come", far.heard(0, 0, 319), 0);
        CHECK.due("nothing behind it", far.heard(0, 0, 320), EchoGorge.NONE);
    }

    private static void cutDown() {
        EchoGorge x = Check.made("sound 99 0;wall 1 1 1 55 again 3;air 7 33;air 8 0;");
        x.say(0, 0);
        CHECK.due("99 by 55", x.loud(0, 12, 1, 0), 54);
        CHECK.due("54 by 55", x.loud(0, 12, 2, 0), 29);
        CHECK.due("29 by 55", x.loud(0, 12, 3, 0), 15);
        CHECK.due("54 by 33", x.loud(0, 7, 1, 0), 17);
        CHECK.due("29 by 33, air once", x.loud(0, 7, 2, 0), 9);
        CHECK.due("15 by 33", x.loud(0, 7, 3, 0), 4);
        CHECK.due("straight without air", x.loud(0, 7, 0, 0), 99);
        CHECK.due("no air", x.heard(0, 8, 1), EchoGorge.NONE);
        x.say(0, 1);
        CHECK.due("said and two that return", x.loud(0, 12, 2, 0), 29 + 54);
    }

    private static void likeLoud() {
        EchoGorge x = Check.made("sound 40 0;sound 40 0;sound 41 0;mask 40 0 0;");
        x.say(1, 0);
        x.say(0, 0);
        CHECK.due("of like ones the least", x.heard(0, 12, 0), 0);
        x.say(2, 0);
        CHECK.due("the loudest", x.heard(0, 12, 0), 2);
        EchoGorge y = Check.made("sound 39 0;mask 40 0 0;");
        y.say(0, 0);
        CHECK.due("below the least", y.heard(0, 12, 0), EchoGorge.NONE);
        CHECK.due("but loud", y.loud(0, 12, 0, 0), 39);
    }

    private static void mask() {
        EchoGorge x = Check.made("sound 50 0;sound 20 0;sound 19 0;mask 1 2 30;");
        x.say(0, 5);
        x.say(1, 6);
        x.say(2, 7);
        CHECK.due("above by the margin, no more", x.heard(0, 12, 6), 1);
        CHECK.due("above by more", x.heard(0, 12, 7), EchoGorge.NONE);
        x.say(2, 8);
        CHECK.due("behind the window", x.heard(0, 12, 8), 2);
        x.say(2, 4);
        CHECK.due("what comes behind masks nothing", x.heard(0, 12, 4), 2);
        EchoGorge y = Check.made("sound 50 0;sound 49 0;sound 20 0;mask 1 1 0;");
        y.say(0, 0);
        y.say(1, 1);
        y.say(2, 2);
        CHECK.due("masked itself", y.heard(0, 12, 1), EchoGorge.NONE);
        CHECK.due("what isn't heard masks too", y.heard(0, 12, 2), EchoGorge.NONE);
        EchoGorge z = Check.made("sound 50 0;sound 20 0;mask 1 9 0;");
        z.say(0, 0);
        z.say(1, 9);
        CHECK.due("nine ticks ahead", z.heard(0, 12, 9), EchoGorge.NONE);
        z.say(1, 10);
        CHECK.due("ten ticks ahead", z.heard(0, 12, 10), 1);
    }

    private static void wrongInputs() {
        EchoGorge x = Check.made("sound 5 0;");
        int[][] wrong = {{-1, 0, 0}, {3, 0, 0}, {0, -1, 0}, {0, 24, 0}, {0, 0, -1}, {0, 0, 400},
            {Integer.MIN_VALUE, 0, 0}, {0, Integer.MAX_VALUE, 0}, {0, 0, Integer.MAX_VALUE}};
        for (int[] w : wrong) {
            CHECK.dueThrow("heard of " + w[0] + " " + w[1] + " " + w[2], NoSuchElementException.class,
                    () -> x.heard(w[0], w[1], w[2]));
            CHECK.dueThrow("loud of " + w[0] + " " + w[1] + " " + w[2], NoSuchElementException.class,
                    () -> x.loud(w[0], w[1], w[2], 0));
        }
        CHECK.dueThrow("loud of sound 1", NoSuchElementException.class, () -> x.loud(0, 0, 0, 1));
        CHECK.dueThrow("loud of sound -1", NoSuchElementException.class, () -> x.loud(0, 0, 0, -1));
    }
}
