import java.util.ArrayList;
import java.util.List;
import java.util.concurrent.Callable;

/**
 * Each call that is refused, or throws: its answer, its STATUS, and that nothing else has changed by it.
 * Every one is made on an object of its own, that is then held against one on which it was not made.
 */
public final class RefusedTest {
    private static final Check CHECK = new Check();
    private static final String NOT_THERE = "throws.NoSuchElementException";
    private static final String WRONG = "throws.IllegalArgumentException";
    private static final String GORGE = "sound 50 0;sound 40 1;wall 3 5 7 50;wall 6 1 1 80 swallows 1 again 2;mask 10 1 20;"
            + "word 0 0;word 0 1;word 1 0 0;form 0;form 1 0;straight 2 4;air 5 50;sweet 0 1;";
    private static final int[] FAR = {Integer.MIN_VALUE, Integer.MAX_VALUE};
    private static final int NONE = EchoGorge.NONE;

    /** A call that would do something to the object. */
    private interface Asking {
        Object of(EchoGorge x);
    }

    private record Refused(String call, String answer, int status, Asking asking) { }

    private static final List<Refused> CALLS = new ArrayList<>();
    private static String seen;
    private static String imaged;

    public static void main(String[] args) {
        seen = Seen.of(scene(false));
        imaged = imageOf(scene(false));
        ofTheText();
        ofTheSaid();
        ofLines();
        ofTheTold();
        ofPlaces();
        for (Refused refused : CALLS) {
            refusedInAScene(refused, false);
            refusedInAScene(refused, true);
        }
        textsWithFaults();
        fullTape();
        fullSaid();
        fullTold();
        noImage();
        CHECK.end();
    }

    /** Something said, told, sung, a tape, an image that is otherwise, and each status above 0. */
    private static EchoGorge scene(boolean bytes) {
        EchoGorge x = new EchoGorge();
        Check.gorge(x, "foo");
        Check.gorge(x, GORGE);
        x.stand(1, 1, 30);
        x.say(1, 1);
        x.sing(5, 1);
        x.image();
        x.say(0, 0);
        x.say(0, 0);
        x.say(1, 4);
        x.tell(0);
        x.tell(NONE);
        x.tell(1);
        x.sing(0, 0);
        x.sing(1, 1);
        x.stand(0, 3, 4);
        x.stand(2, 12, 0);
        if (bytes) {
            Check.feed(x, "sound 33 1;wall 1 1 1");
        }
        return x;
    }

    private static String imageOf(EchoGorge x) {
        StringBuilder all = new StringBuilder();
        all.append(x.restore()).append(x.count(4)).append(x.count(5)).append(x.round(2)).append(x.heard(0, 12, 1));
        return all.append(x.matching(0, 0, NONE)).append(' ').append(x.matching(5, 0, NONE)).toString();
    }

    private static void refused(String call, String answer, int status, Asking asking) {
        CALLS.add(new Refused(call, answer, status, asking));
    }

    private static void notThere(String call, Asking asking) {
        refused(call, NOT_THERE, NONE, asking);
    }

    private static void wrong(String call, Asking asking) {
        refused(call, WRONG, NONE, asking);
    }

    private static void refusedInAScene(Refused refused, boolean bytes) {
        EchoGorge x = scene(bytes);
        int[] status = {x.count(7), x.count(8), x.count(9)};
        if (refused.status >= 0) {
            status[refused.status]++;
        }
        Callable<?> asking = () -> refused.asking.of(x);
        CHECK.due(refused.call, Check.outcome(asking), refused.answer);
        CHECK.due(refused.call + ": tape, fault, status", Seen.besides(x), "tape " + (bytes ? 40 : 0) + " fault -1 status "
                + status[0] + " " + status[1] + " " + status[2]);
        CHECK.due(refused.call + ": nothing else", Seen.of(x), seen);
        CHECK.due(refused.call + ": nor the image", imageOf(x), imaged);
        if (bytes) {
            CHECK.due(refused.call + ": nor the tape's bytes", x.gorge(11), 0);
            CHECK.due(refused.call + ": one sound on it", x.count(0) * 10 + x.count(1), 10);
        }
    }

    private static void ofTheText() {
        for (int n : new int[] {-1, 41, 700, 701, Integer.MIN_VALUE, Integer.MAX_VALUE}) {
            wrong("gorge(" + n + ")", x -> x.gorge(n));
        }
        for (int what : new int[] {-1, 11, FAR[0], FAR[1]}) {
            notThere("count(" + what + ")", x -> x.count(what));
        }
        for (int wall : new int[] {-1, 2, 6, FAR[0], FAR[1]}) {
            notThere("wall(" + wall + ", 0)", x -> x.wall(wall, 0));
            notThere("wall(" + wall + ", 6)", x -> x.wall(wall, 6));
        }
        for (int what : new int[] {-1, 6, FAR[0], FAR[1]}) {
            notThere("wall(1, " + what + ")", x -> x.wall(1, what));
        }
        for (int word : new int[] {-1, 3, 8, FAR[0], FAR[1]}) {
            notThere("word(" + word + ", 0)", x -> x.word(word, 0));
        }
        for (int what : new int[] {-1, 4, FAR[0], FAR[1]}) {
            notThere("word(2, " + what + ")", x -> x.word(2, what));
        }
        notThere("word(0, 3)", x -> x.word(0, 3));
    }

    private static void ofTheSaid() {
        for (int tick : new int[] {-1, 200, FAR[0], FAR[1]}) {
            refused("say(0, " + tick + ")", "-1", 1, x -> x.say(0, tick));
        }
        refused("say(0, 0) again", "-1", 1, x -> x.say(0, 0));
        refused("say(1, 4) again", "-1", 1, x -> x.say(1, 4));
        for (int sound : new int[] {-1, 2, 8, FAR[0], FAR[1]}) {
            notThere("say(" + sound + ", 9)", x -> x.say(sound, 9));
            notThere("say(" + sound + ", 200)", x -> x.say(sound, 200));
            notThere("loud(0, 0, 0, " + sound + ")", x -> x.loud(0, 0, 0, sound));
        }
        for (int ear : new int[] {-1, 3, FAR[0], FAR[1]}) {
            notThere("heard(" + ear + ", 0, 0)", x -> x.heard(ear, 0, 0));
            notThere("loud(" + ear + ", 0, 0, 0)", x -> x.loud(ear, 0, 0, 0));
        }
        for (int hour : new int[] {-1, 24, FAR[0], FAR[1]}) {
            notThere("heard(1, " + hour + ", 0)", x -> x.heard(1, hour, 0));
            notThere("loud(1, " + hour + ", 0, 0)", x -> x.loud(1, hour, 0, 0));
        }
        for (int tick : new int[] {-1, 400, FAR[0], FAR[1]}) {
            notThere("heard(2, 5, " + tick + ")", x -> x.heard(2, 5, tick));
            notThere("loud(2, 5, " + tick + ", 0)", x -> x.loud(2, 5, tick, 0));
        }
    }

    private static void ofLines() {
        for (int hour : new int[] {-1, 24, FAR[0], FAR[1]}) {
            notThere("lines(" + hour + ", 0)", x -> x.lines(hour, 0));
            notThere("line(" + hour + ", 0, 0)", x -> x.line(hour, 0, 0));
            notThere("still(" + hour + ", 50)", x -> x.still(hour, 50));
            notThere("still(" + hour + ", 101)", x -> x.still(hour, 101));
            notThere("without(" + hour + ", 0)", x -> x.without(hour, 0));
            notThere("lasts(" + hour + ")", x -> x.lasts(hour));
        }
        for (int what : new int[] {-1, 5, FAR[0], FAR[1]}) {
            notThere("lines(12, " + what + ")", x -> x.lines(12, what));
        }
        for (int what : new int[] {-1, 4, FAR[0], FAR[1]}) {
            notThere("line(12, 0, " + what + ")", x -> x.line(12, 0, what));
        }
        for (int i : new int[] {-2, 99, FAR[0], FAR[1]}) {
            notThere("line(12, " + i + ", 0)", x -> x.line(12, i, 0));
        }
        for (int fog : new int[] {-1, 101, FAR[0], FAR[1]}) {
            wrong("still(5, " + fog + ")", x -> x.still(5, fog));
        }
        for (int wall : new int[] {-1, 2, 6, FAR[0], FAR[1]}) {
            notThere("without(5, " + wall + ")", x -> x.without(5, wall));
        }
    }

    private static void ofTheTold() {
        for (int tick : new int[] {-1, 16, FAR[0], FAR[1]}) {
            notThere("sing(" + tick + ", 0)", x -> x.sing(tick, 0));
            notThere("sing(" + tick + ", NONE)", x -> x.sing(tick, NONE));
        }
        for (int sound : new int[] {-2, 2, 8, FAR[0], FAR[1]}) {
            notThere("sing(0, " + sound + ")", x -> x.sing(0, sound));
            notThere("sing(15, " + sound + ")", x -> x.sing(15, sound));
            notThere("tell(" + sound + ")", x -> x.tell(sound));
        }
        for (int what : new int[] {-1, 3, FAR[0], FAR[1]}) {
            notThere("round(" + what + ")", x -> x.round(what));
            notThere("sayers(" + what + ")", x -> x.sayers(what));
        }
        for (int what : new int[] {-1, 6, FAR[0], FAR[1]}) {
            notThere("rivals(50, " + what + ")", x -> x.rivals(50, what));
            notThere("rivals(0, " + what + ")", x -> x.rivals(0, what));
        }
        for (int share : new int[] {-1, 0, 101, FAR[0], FAR[1]}) {
            wrong("rivals(" + share + ", 0)", x -> x.rivals(share, 0));
            wrong("rivals(" + share + ", 5)", x -> x.rivals(share, 5));
        }
    }

    private static void ofPlaces() {
        for (int place : new int[] {-1, 31, FAR[0], FAR[1]}) {
            refused("stand(0, " + place + ", 0)", "false", NONE, x -> x.stand(0, place, 0));
            refused("stand(2, 30, " + place + ")", "false", NONE, x -> x.stand(2, 30, place));
        }
        for (int ear : new int[] {-1, 3, FAR[0], FAR[1]}) {
            notThere("stand(" + ear + ", 0, 0)", x -> x.stand(ear, 0, 0));
        }
        for (int i : new int[] {-2, 961, FAR[0], FAR[1]}) {
            notThere("matching(0, 0, " + i + ")", x -> x.matching(0, 0, i));
        }
        notThere("matching(43, 43, 0)", x -> x.matching(43, 43, 0));
        for (int steps : new int[] {-1, 61, FAR[0], FAR[1]}) {
            wrong("moved(0, 0, 0, 0, " + steps + ")", x -> x.moved(0, 0, 0, 0, steps));
        }
        for (int what : new int[] {-1, 18, FAR[0], FAR[1]}) {
            notThere("code(1, " + what + ")", x -> x.code(1, what));
        }
        for (int sound : new int[] {-1, 2, 8, FAR[0], FAR[1]}) {
            notThere("code(" + sound + ", 0)", x -> x.code(sound, 0));
        }
    }

    /** A text with each FAULT: all stays but the tape, the fault's place and STATUS 0. */
    private static void textsWithFaults() {
        String[] texts = {"sound 9 9;", "foo", "sound 9 0;sound 9 0;sound 9 0;wall 9 9 9 9;air 5 0;mask 99 9 99;straight 9 9;x",
            "sound 9 0;word 0 0 0 0 0 0;", "sound 9 0;word 0 1;", "sound 9 0;sound 8 0;sweet 0 1;sweet 1 1;",
            "wall 9 9 9 9 swallows 1 1;", "air 12 0;air 12 0;", "straight 9 9;straight 9 9;", "mask 99 9 0;mask 9 9 9;",
            "sound 9 0;word 3 0;form 3;form", "form 0;".repeat(7)};
        int[] faults = {2, 1, 1, 2, 3, 4, 4, 5, 5, 5, 1, 2};
        int[] places = {8, 0, 77, 25, 17, 38, 24, 13, 13, 12, 30, 42};
        for (int i = 0; i < texts.length; i++) {
            EchoGorge x = scene(false);
            CHECK.due("\"" + texts[i] + "\"", Check.gorge(x, texts[i]), faults[i]);
            CHECK.due("tape, fault, status", Seen.besides(x), "tape 0 fault " + places[i] + " status 2 1 0");
            CHECK.due("\"" + texts[i] + "\": all stays", Seen.of(x), seen);
            CHECK.due("\"" + texts[i] + "\": so does the image", imageOf(x), imaged);
        }
    }

    private static void fullTape() {
        EchoGorge x = scene(false);
        Check.feed(x, "sound 33 1;sound 44 1" + " ".repeat(678) + ";");
        CHECK.due("the tape is full", x.count(6), 700);
        CHECK.due("feed", x.feed(1, 2, 3, 4, 5), NONE);
        CHECK.due("no fault, no status", Seen.besides(x), "tape 700 fault -1 status 1 1 0");
        CHECK.due("nothing else", Seen.of(x), seen);
        CHECK.due("nor the image", imageOf(x), imaged);
        CHECK.due("nor the bytes", x.gorge(700), 0);
        CHECK.due("two sounds", x.count(0), 2);
    }

    private static void fullSaid() {
        EchoGorge x = scene(false);
        for (int i = 3; i < 200; i++) {
            CHECK.due("there is room", x.say(i % 2, i / 2 + 40), i + 1);
        }
        String heard = heard(x);
        for (int tick : new int[] {2, 0, 199}) {
            CHECK.due("no more", x.say(0, tick), NONE);
        }
        CHECK.dueThrow("no such sound, ahead", java.util.NoSuchElementException.class, () -> x.say(2, 2));
        CHECK.due("status", Seen.besides(x), "tape 0 fault -1 status 1 4 0");
        CHECK.due("the said as it was", heard(x), heard);
        CHECK.due("how much", x.count(4), 200);
        CHECK.due("and the image", imageOf(x), imaged);
    }

    private static String heard(EchoGorge x) {
        StringBuilder all = new StringBuilder();
        for (int tick = 0; tick < 10; tick++) {
            all.append(x.heard(0, 12, tick)).append(' ').append(x.heard(1, 5, tick + 130)).append(' ');
        }
        return all.toString();
    }

    private static void fullTold() {
        EchoGorge x = scene(false);
        for (int i = 3; i < 60; i++) {
            CHECK.due("there is room", x.tell(NONE), i + 1);
        }
        int sayers = x.sayers(0);
        for (int sound = -1; sound < 2; sound++) {
            CHECK.due("no more", x.tell(sound), NONE);
        }
        CHECK.dueThrow("no such sound", java.util.NoSuchElementException.class, () -> x.tell(2));
        CHECK.due("status", Seen.besides(x), "tape 0 fault -1 status 1 1 3");
        CHECK.due("the told as it was", x.count(5), 60);
        CHECK.due("and who said it", x.sayers(0), sayers);
        CHECK.due("and the image", imageOf(x), imaged);
    }

    private static void noImage() {
        EchoGorge x = Check.made(GORGE);
        x.say(0, 0);
        x.tell(0);
        String all = Seen.of(x);
        CHECK.due("restore", x.restore(), false);
        CHECK.due("no status", Seen.besides(x), "tape 0 fault -1 status 0 0 0");
        CHECK.due("nothing changed", Seen.of(x), all);
    }
}
