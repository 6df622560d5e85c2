import java.util.NoSuchElementException;

/** The edges of what arrives, is said and is heard (part 2, promises 8 to 11). */
public final class SaidEdgesTest {
    private static final Check CHECK = new Check();

    public static void main(String[] args) {
        ticksOfSaying();
        twoHundred();
        onceAtATick();
        soundAhead();
        hushEdges();
        straightEdges();
        shareEdges();
        againEdges();
        swallowEdges();
        airEdges();
        cutDownEachTime();
        together();
        mostWays();
        likeLoudness();
        leastEdges();
        windowEdges();
        marginEdges();
        heardTicks();
        nothingSaid();
        earsHoursTicks();
        soundsOfLoud();
        everyHourAndEar();
        CHECK.end();
    }

    private static void ticksOfSaying() {
        EchoGorge x = Check.made("sound 50 0;");
        CHECK.due("tick 0", x.say(0, 0), 1);
        CHECK.due("tick 199", x.say(0, 199), 2);
        int refused = 0;
        for (int tick : new int[] {-1, 200, 399, 400, -200, Integer.MIN_VALUE, Integer.MAX_VALUE}) {
            CHECK.due("tick " + tick, x.say(0, tick), EchoGorge.NONE);
            refused++;
            CHECK.due("status", x.count(8), refused);
            CHECK.due("so much is said", x.count(4), 2);
        }
        CHECK.due("heard at 0", x.heard(0, 12, 0), 0);
        CHECK.due("heard at 199", x.heard(0, 12, 199), 0);
        CHECK.due("not heard at 200", x.heard(0, 12, 200), EchoGorge.NONE);
        CHECK.due("not heard at 1", x.heard(0, 12, 1), EchoGorge.NONE);
        CHECK.due("the other status", x.count(7) + x.count(9), 0);
    }

    private static void twoHundred() {
        EchoGorge x = Check.made("sound 50 0;".repeat(8));
        for (int i = 0; i < 199; i++) {
            x.say(i % 8, i / 8);
        }
        CHECK.due("199", x.count(4), 199);
        CHECK.due("the 200th", x.say(7, 24), 200);
        CHECK.due("the 201st", x.say(0, 25), EchoGorge.NONE);
        CHECK.due("status", x.count(8), 1);
        CHECK.due("one that is there already", x.say(0, 0), EchoGorge.NONE);
        CHECK.due("at no such tick", x.say(0, 200), EchoGorge.NONE);
        CHECK.due("each once", x.count(8), 3);
        CHECK.due("it did not come", x.loud(0, 12, 25, 0), 0);
        CHECK.dueThrow("no such sound, ahead of all", NoSuchElementException.class, () -> x.say(8, 25));
        CHECK.due("no status of that", x.count(8), 3);
        CHECK.due("all are hushed", x.hush(), 200);
        CHECK.due("then there is room", x.say(0, 25), 1);
    }

    private static void onceAtATick() {
        EchoGorge x = Check.made("sound 5 0;".repeat(8));
        for (int sound = 0; sound < 8; sound++) {
            CHECK.due("all sounds at a tick", x.say(sound, 7), sound + 1);
        }
        for (int sound = 0; sound < 8; sound++) {
            CHECK.due("each once", x.say(sound, 7), EchoGorge.NONE);
            CHECK.due("none is louder", x.loud(0, 12, 7, sound), 5);
        }
        CHECK.due("status", x.count(8), 8);
        CHECK.due("a tick ahead", x.say(3, 6), 9);
        CHECK.due("a tick behind", x.say(3, 8), 10);
    }

    private static void soundAhead() {
        EchoGorge x = Check.made("sound 50 0;sound 40 0;");
        x.say(0, 0);
        for (int sound : new int[] {-1, 2, 8, Integer.MIN_VALUE, Integer.MAX_VALUE}) {
            for (int tick : new int[] {-1, 0, 200}) {
                CHECK.dueThrow("say(" + sound + ", " + tick + ")", NoSuchElementException.class, () -> x.say(sound, tick));
            }
        }
        CHECK.due("no status", x.count(8), 0);
        CHECK.due("nothing came", x.count(4), 1);
        EchoGorge y = new EchoGorge();
        CHECK.dueThrow("no sounds at all", NoSuchElementException.class, () -> y.say(0, 0));
    }

    private static void hushEdges() {
        EchoGorge x = new EchoGorge();
        CHECK.due("hush of a new object", x.hush(), 0);
        EchoGorge y = Check.made("sound 50 0;wall 5 5 5 100;");
        y.say(0, 0);
        y.say(0, 199);
        y.say(0, 0);
        y.tell(0);
        y.sing(3, 0);
        y.stand(1, 4, 4);
        CHECK.due("how much was", y.hush(), 2);
        CHECK.due("and again", y.hush(), 0);
        for (int tick : new int[] {0, 5, 199, 204}) {
            CHECK.due("nothing at " + tick, y.heard(0, 12, tick), EchoGorge.NONE);
        }
        CHECK.due("status stays", y.count(8), 1);
        CHECK.due("what is told stays", y.count(5), 1);
        CHECK.due("the round stays", y.round(2), 4);
        CHECK.due("the ears stay", y.matching(0, 0, -1) < 961, true);
        CHECK.due("from 1 on again", y.say(0, 0), 1);
    }

    private static void straightEdges() {
        EchoGorge x = Check.made("sound 50 0;");
        x.say(0, 0);
        for (int ear = 0; ear < 3; ear++) {
            CHECK.due("straight is 0 at first, to ear " + ear, x.loud(ear, 12, 0, 0), 50);
        }
        EchoGorge y = Check.made("sound 50 0;straight 40 1;");
        y.say(0, 0);
        y.say(0, 199);
        CHECK.due("to ear 0 always 0", y.loud(0, 12, 0, 0), 50);
        CHECK.due("40 to ear 1", y.loud(1, 12, 40, 0), 50);
        CHECK.due("not at 0", y.loud(1, 12, 0, 0), 0);
        CHECK.due("1 to ear 2", y.loud(2, 12, 1, 0), 50);
        CHECK.due("not at 0 there", y.loud(2, 12, 0, 0), 0);
        CHECK.due("of the last tick", y.heard(1, 12, 239), 0);
        CHECK.due("at ear 2", y.heard(2, 12, 200), 0);
        CHECK.due("and nothing behind it", y.heard(2, 12, 201), EchoGorge.NONE);
        // a return may be sooner than the straight way
        EchoGorge z = Check.made("sound 50 0;straight 40 40;wall 9 1 40 100;");
        z.say(0, 0);
        CHECK.due("sooner", z.heard(1, 12, 1), 0);
        CHECK.due("as late, together", z.loud(2, 12, 40, 0), 100);
    }

    private static void shareEdges() {
        EchoGorge x = Check.made("sound 99 0;sound 1 0;wall 1 1 1 0;wall 2 1 1 1;wall 3 1 1 99;wall 4 1 1 100;wall 5 1 1 2;");
        x.say(0, 0);
        x.say(1, 0);
        int[] want = {0, 0, 98, 99, 1};
        int[] quiet = {0, 0, 0, 1, 0};
        for (int i = 0; i < 5; i++) {
            CHECK.due("99 by the share of wall " + i, x.loud(0, 12, i + 1, 0), want[i]);
            CHECK.due("1 by the share of wall " + i, x.loud(0, 12, i + 1, 1), quiet[i]);
            CHECK.due("heard if above 0", x.heard(0, 12, i + 1), want[i] > 0 ? 0 : EchoGorge.NONE);
        }
    }

    private static void againEdges() {
        for (int again = 0; again <= 3; again++) {
            EchoGorge x = Check.made("sound 80 0;wall 40 7 1 50" + (again == 0 ? ";" : " again " + again + ";"));
            x.say(0, 0);
            int loud = 80;
            for (int n = 1; n <= 4; n++) {
                loud /= 2;
                int want = n <= Math.max(1, again) ? loud : 0;
                CHECK.due("again " + again + ", return " + n, x.loud(0, 12, 40 * n, 0), want);
                CHECK.due("again " + again + ", return " + n + " at ear 1", x.loud(1, 12, 7 * n, 0), want);
                CHECK.due("again " + again + ", return " + n + " at ear 2", x.loud(2, 12, n, 0), want);
            }
            CHECK.due("not between", x.loud(1, 12, 8, 0), 0);
        }
    }

    private static void swallowEdges() {
        EchoGorge x = Check.made("sound 50 0;sound 50 1;sound 50 2;sound 50 3;wall 1 9 9 100 swallows 0;wall 2 9 9 100 swallows 3;"
                + "wall 3 9 9 100 swallows 0 1 2 3;wall 4 9 9 100 swallows 2 1;wall 5 9 9 100;");
        for (int sound = 0; sound < 4; sound++) {
            x.say(sound, 0);
        }
        int[] gone = {1, 8, 15, 6, 0};
        for (int wall = 0; wall < 5; wall++) {
            for (int sound = 0; sound < 4; sound++) {
                CHECK.due("wall " + wall + ", sound " + sound, x.loud(0, 12, wall + 1, sound),
                        (gone[wall] >> sound & 1) != 0 ? 0 : 50);
            }
        }
        CHECK.due("the straight way is swallowed by none", x.loud(0, 12, 0, 3), 50);
    }

    private static void airEdges() {
        EchoGorge x = Check.made("sound 99 0;wall 1 1 1 100;air 0 0;air 1 1;air 2 2;air 22 99;air 23 100;");
        x.say(0, 0);
        int[] hours = {0, 1, 2, 22, 23, 12};
        int[] want = {0, 0, 1, 98, 99, 99};
        for (int i = 0; i < 6; i++) {
            CHECK.due("air of hour " + hours[i], x.loud(0, hours[i], 1, 0), want[i]);
            CHECK.due("heard in hour " + hours[i], x.heard(0, hours[i], 1), want[i] > 0 ? 0 : EchoGorge.NONE);
            CHECK.due("straight is as loud as it is in hour " + hours[i], x.loud(0, hours[i], 0, 0), 99);
            CHECK.due("at ear 1 both in hour " + hours[i], x.loud(1, hours[i], 0, 0) + x.loud(1, hours[i], 1, 0), 99 + want[i]);
        }
    }

    /** 99 by 67 is 66.3, 66 by 67 is 44.2, 44 by 67 is 29.5; by 51 33.7, 22.4, 14.8. */
    private static void cutDownEachTime() {
        EchoGorge x = Check.made("sound 99 0;wall 2 2 2 67 again 3;air 4 51;");
        x.say(0, 0);
        int[] noon = {66, 44, 29};
        int[] four = {33, 22, 14};
        for (int n = 1; n <= 3; n++) {
            CHECK.due("cut down " + n + " times", x.loud(0, 12, 2 * n, 0), noon[n - 1]);
            CHECK.due("then by air", x.loud(0, 4, 2 * n, 0), four[n - 1]);
        }
        // each return by itself is cut down, then they come together: 3 by 50 is 1, thrice is 3
        EchoGorge y = Check.made("sound 3 0;wall 6 1 1 50;wall 6 1 1 50;wall 6 1 1 50;");
        y.say(0, 0);
        CHECK.due("each by itself", y.loud(0, 12, 6, 0), 3);
    }

    private static void together() {
        // 6 walls thrice and the straight way at one tick
        EchoGorge x = Check.made("sound 99 0;" + "wall 1 1 1 100 again 3;".repeat(6) + "mask 99 9 99;");
        x.say(0, 0);
        x.say(0, 1);
        x.say(0, 2);
        x.say(0, 3);
        CHECK.due("all at tick 3", x.loud(0, 12, 3, 0), 99 * 19);
        CHECK.due("heard by all of that", x.heard(0, 12, 3), 0);
        CHECK.due("and two returns later", x.loud(0, 12, 5, 0), 99 * 12);
        CHECK.due("masked by the tick of most", x.heard(0, 12, 5), EchoGorge.NONE);
        CHECK.due("the last of them", x.loud(0, 12, 6, 0), 99 * 6);
        CHECK.due("no more", x.loud(0, 12, 7, 0), 0);
        // LOUDNESS is of one sound: two of 30 are not 60
        EchoGorge y = Check.made("sound 30 0;sound 30 0;sound 31 0;mask 32 0 0;");
        y.say(0, 0);
        y.say(1, 0);
        y.say(2, 0);
        CHECK.due("each by itself", y.heard(0, 12, 0), EchoGorge.NONE);
    }

    /** 18 returns and the straight way, each at a tick of its own. */
    private static void mostWays() {
        int[] delays = {37, 38, 39, 40, 31, 29};
        StringBuilder text = new StringBuilder("sound 80 0;sound 90 1;straight 3 3;");
        for (int delay : delays) {
            text.append("wall ").append(delay).append(" 9 9 50 again 3;");
        }
        EchoGorge x = Check.made(text.toString());
        x.say(0, 0);
        x.say(1, 199);
        for (int delay : delays) {
            for (int n = 1; n <= 3; n++) {
                CHECK.due("by " + n + " times " + delay, x.loud(0, 12, n * delay, 0), 80 >> n);
                CHECK.due("by " + n + " times " + delay + " from 199", x.heard(0, 12, 199 + n * delay), 1);
                CHECK.due("one tick later", x.loud(0, 12, n * delay + 1, 0), delay < 40 && delay > 36 && n == 1 ? 40 : 0);
            }
        }
        for (int tick : new int[] {320, 321, 399}) {
            CHECK.due("behind all of them, at " + tick, x.heard(0, 12, tick), EchoGorge.NONE);
            CHECK.due("as loud as nothing", x.loud(0, 12, tick, 1), 0);
        }
        CHECK.due("straight", x.loud(0, 12, 0, 0), 80);
        CHECK.due("all six at ear 1", x.loud(1, 12, 27, 0), 60);
        CHECK.due("straight to ear 1", x.loud(1, 12, 3, 0), 80);
    }

    private static void likeLoudness() {
        EchoGorge x = Check.made("sound 50 0;".repeat(7) + "sound 51 0;");
        for (int sound = 6; sound >= 0; sound--) {
            x.say(sound, 0);
            CHECK.due("the least of like ones", x.heard(0, 12, 0), sound);
        }
        x.say(7, 0);
        CHECK.due("one above them", x.heard(0, 12, 0), 7);
    }

    private static void leastEdges() {
        EchoGorge x = Check.made("sound 99 0;sound 98 0;mask 99 0 0;");
        x.say(0, 0);
        x.say(1, 1);
        CHECK.due("just the least", x.heard(0, 12, 0), 0);
        CHECK.due("one below", x.heard(0, 12, 1), EchoGorge.NONE);
        EchoGorge y = Check.made("sound 1 0;wall 1 1 1 99;");
        y.say(0, 0);
        CHECK.due("the least is 1 at first", y.heard(0, 12, 0), 0);
        CHECK.due("nothing of 0 is heard", y.heard(0, 12, 1), EchoGorge.NONE);
    }

    private static void windowEdges() {
        for (int window = 0; window <= 9; window++) {
            EchoGorge x = Check.made("sound 50 0;sound 20 0;mask 1 " + window + " 0;");
            x.say(0, 20);
            for (int later : new int[] {window, window + 1}) {
                x.say(1, 20 + later);
                boolean masked = later > 0 && later <= window;
                CHECK.due("window " + window + ", " + later + " later", x.heard(0, 12, 20 + later),
                        later == 0 ? 0 : masked ? EchoGorge.NONE : 1);
            }
            x.say(1, 19);
            CHECK.due("what comes behind it masks nothing", x.heard(0, 12, 19), 1);
        }
        // at the first ticks the window reaches back behind none
        EchoGorge y = Check.made("sound 50 0;sound 20 0;mask 1 9 0;");
        y.say(1, 0);
        CHECK.due("at tick 0", y.heard(0, 12, 0), 1);
        y.say(1, 8);
        CHECK.due("as loud ahead", y.heard(0, 12, 8), 1);
        y.say(0, 0);
        CHECK.due("tick 0 ahead of 8", y.heard(0, 12, 8), EchoGorge.NONE);
        // what is in the window and was masked or not heard by itself masks all the same
        EchoGorge z = Check.made("sound 60 0;sound 50 0;sound 20 0;mask 1 1 0;");
        z.say(0, 0);
        z.say(1, 1);
        z.say(2, 2);
        CHECK.due("masked", z.heard(0, 12, 1), EchoGorge.NONE);
        CHECK.due("by what was masked itself", z.heard(0, 12, 2), EchoGorge.NONE);
        // a sound masks its own return
        EchoGorge w = Check.made("sound 60 0;wall 1 1 1 50;mask 1 1 29;");
        w.say(0, 0);
        CHECK.due("its own return", w.heard(0, 12, 1), EchoGorge.NONE);
    }

    private static void marginEdges() {
        for (int margin : new int[] {0, 1, 49, 98, 99}) {
            EchoGorge x = Check.made("sound 99 0;sound " + Math.max(1, 99 - margin) + " 0;sound " + Math.max(1, 98 - margin)
                    + " 0;mask 1 1 " + margin + ";");
            x.say(0, 0);
            x.say(1, 1);
            CHECK.due("above by " + margin, x.heard(0, 12, 1), 1);
            x.hush();
            x.say(0, 0);
            x.say(2, 1);
            CHECK.due("above by one more than " + margin, x.heard(0, 12, 1), margin < 98 ? EchoGorge.NONE : 2);
        }
        // two that come together may be above by more than 99
        EchoGorge y = Check.made("sound 99 0;sound 1 0;wall 1 1 1 100;mask 1 1 99;");
        y.say(0, 0);
        y.say(0, 1);
        y.say(1, 3);
        CHECK.due("198 at tick 1", y.loud(0, 12, 1, 0), 198);
        CHECK.due("99 is not above by more", y.heard(0, 12, 3), 1);
        CHECK.due("198 is no more than 99 above 99", y.heard(0, 12, 2), 0);
        // the loudest of the tick itself is held against it, not the tick's others
        EchoGorge z = Check.made("sound 50 0;sound 10 0;sound 50 0;mask 1 1 0;");
        z.say(0, 0);
        z.say(1, 1);
        z.say(2, 1);
        CHECK.due("the loudest", z.heard(0, 12, 1), 2);
    }

    private static void heardTicks() {
        EchoGorge x = Check.made("sound 99 0;wall 40 40 40 100 again 3;straight 40 40;mask 99 9 0;");
        x.say(0, 199);
        for (int ear = 0; ear < 3; ear++) {
            CHECK.due("the latest that can come to ear " + ear, x.heard(ear, 23, 319), 0);
            CHECK.due("one ahead of it", x.heard(ear, 23, 318), EchoGorge.NONE);
            CHECK.due("one behind it", x.heard(ear, 23, 320), EchoGorge.NONE);
            CHECK.due("the last tick of all", x.heard(ear, 23, 399), EchoGorge.NONE);
            CHECK.due("as loud as nothing", x.loud(ear, 23, 399, 0), 0);
            CHECK.due("the first tick", x.heard(ear, 0, 0), EchoGorge.NONE);
        }
    }

    private static void nothingSaid() {
        EchoGorge x = Check.made("sound 99 0;wall 1 1 1 100;");
        EchoGorge none = new EchoGorge();
        for (int tick : new int[] {0, 1, 199, 200, 399}) {
            CHECK.due("nothing said", x.heard(0, 12, tick), EchoGorge.NONE);
            CHECK.due("as loud as nothing", x.loud(0, 12, tick, 0), 0);
            CHECK.due("no sounds", none.heard(2, 0, tick), EchoGorge.NONE);
        }
    }

    private static void earsHoursTicks() {
        EchoGorge x = Check.made("sound 50 0;");
        x.say(0, 0);
        int[] ears = {-1, 3, Integer.MIN_VALUE, Integer.MAX_VALUE};
        int[] hours = {-1, 24, Integer.MIN_VALUE, Integer.MAX_VALUE};
        int[] ticks = {-1, 400, Integer.MIN_VALUE, Integer.MAX_VALUE};
        for (int i = 0; i < 4; i++) {
            int ear = ears[i];
            int hour = hours[i];
            int tick = ticks[i];
            none("ear " + ear, x, ear, 0, 0);
            none("hour " + hour, x, 0, hour, 0);
            none("tick " + tick, x, 0, 0, tick);
            none("all wrong", x, ear, hour, tick);
        }
        CHECK.due("nothing changed", x.count(4) * 10 + x.count(8), 10);
        CHECK.due("the least of all", x.heard(0, 0, 0), 0);
        CHECK.due("the most of all", x.heard(2, 23, 399), EchoGorge.NONE);
        CHECK.due("the least of all, loud", x.loud(0, 0, 0, 0), 50);
        CHECK.due("the most of all, loud", x.loud(2, 23, 399, 0), 0);
    }

    private static void none(String what, EchoGorge x, int ear, int hour, int tick) {
        CHECK.dueThrow("heard: " + what, NoSuchElementException.class, () -> x.heard(ear, hour, tick));
        CHECK.dueThrow("loud: " + what, NoSuchElementException.class, () -> x.loud(ear, hour, tick, 0));
    }

    private static void soundsOfLoud() {
        EchoGorge x = Check.made("sound 5 0;sound 6 0;");
        x.say(1, 0);
        CHECK.due("the last sound", x.loud(0, 0, 0, 1), 6);
        for (int sound : new int[] {-1, 2, 8, Integer.MIN_VALUE, Integer.MAX_VALUE}) {
            CHECK.dueThrow("loud of sound " + sound, NoSuchElementException.class, () -> x.loud(0, 0, 0, sound));
        }
        CHECK.dueThrow("loud without sounds", NoSuchElementException.class, () -> new EchoGorge().loud(0, 0, 0, 0));
    }

    /** One call behind the other by other ears and hours: none is answered by another's ways. */
    private static void everyHourAndEar() {
        EchoGorge x = Check.made("sound 80 0;wall 1 2 3 50;air 0 50;air 23 25;straight 5 6;");
        x.say(0, 0);
        int[][] want = {{0, 0, 1, 20}, {0, 12, 1, 40}, {1, 12, 2, 40}, {1, 12, 1, 0}, {1, 23, 2, 10}, {2, 23, 3, 10},
            {2, 23, 2, 0}, {2, 0, 3, 20}, {0, 0, 1, 20}, {0, 23, 1, 10}, {1, 0, 5, 80}, {2, 0, 6, 80}, {0, 12, 0, 80}};
        for (int[] w : want) {
            CHECK.due("loud of " + w[0] + " " + w[1] + " " + w[2], x.loud(w[0], w[1], w[2], 0), w[3]);
            CHECK.due("heard of " + w[0] + " " + w[1] + " " + w[2], x.heard(w[0], w[1], w[2]), w[3] > 0 ? 0 : EchoGorge.NONE);
        }
        // hours of like air, and calls that hear by noon between them
        CHECK.due("noon", x.rivals(50, 0), 0);
        CHECK.due("ear 2 then", x.loud(2, 23, 3, 0), 10);
        CHECK.due("the round hears at ear 0 at noon", x.round(0), 0);
        CHECK.due("ear 2 then", x.loud(2, 23, 3, 0), 10);
        CHECK.due("so does the code", x.code(0, 0), 8);
        CHECK.due("ear 1 then", x.loud(1, 23, 2, 0), 10);
        CHECK.due("so do the sayers", x.sayers(0), 1);
        CHECK.due("ear 1 then", x.loud(1, 23, 2, 0), 10);
        CHECK.due("the lines of hour 23", x.lines(23, 0), 0);
        CHECK.due("ear 0 then", x.loud(0, 23, 1, 0), 10);
        CHECK.due("ear 0 at noon", x.loud(0, 12, 1, 0), 40);
    }
}
