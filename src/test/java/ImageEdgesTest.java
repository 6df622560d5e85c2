/** The edges of an image (promises 27 and 28). */
public final class ImageEdgesTest {
    private static final Check CHECK = new Check();
    private static final String GORGE = "sound 50 0;sound 40 1;sound 30 0;wall 3 9 9 50;wall 1 9 9 30 again 2;mask 5 2 20;"
            + "word 0 0;form 0;";

    public static void main(String[] args) {
        noImage();
        ofNothing();
        ofAll();
        ofEachAlone();
        inPlaceOfAnother();
        manyRestores();
        whatIsNotInIt();
        goneWithAGorge();
        stayingWithAFault();
        CHECK.end();
    }

    private static void noImage() {
        for (EchoGorge x : new EchoGorge[] {new EchoGorge(), Check.made(GORGE)}) {
            CHECK.due("none at first", x.restore(), false);
            CHECK.due("nor then", x.restore(), false);
            CHECK.due("it is no status", x.count(7) + x.count(8) + x.count(9), 0);
        }
        EchoGorge x = Check.made(GORGE);
        busy(x);
        String seen = Seen.of(x);
        CHECK.due("none", x.restore(), false);
        CHECK.due("nothing changed", Seen.of(x), seen);
    }

    private static void busy(EchoGorge x) {
        x.say(0, 0);
        x.say(1, 7);
        x.tell(0);
        x.tell(EchoGorge.NONE);
        x.tell(1);
        x.sing(0, 0);
        x.sing(2, 1);
        x.stand(0, 4, 5);
        x.stand(1, 30, 2);
        x.stand(2, 7, 30);
    }

    private static void otherwise(EchoGorge x) {
        x.hush();
        x.say(2, 3);
        x.untell();
        x.tell(2);
        x.sing(0, 2);
        x.sing(9, EchoGorge.NONE);
        x.stand(0, 1, 1);
        x.stand(1, 9, 9);
        x.stand(2, 20, 3);
    }

    private static void ofNothing() {
        EchoGorge x = Check.made(GORGE);
        String empty = Seen.of(x);
        x.image();
        CHECK.due("an image changes nothing", Seen.of(x), empty);
        busy(x);
        CHECK.due("restore", x.restore(), true);
        CHECK.due("all is empty again", Seen.of(x), empty);
        EchoGorge y = new EchoGorge();
        y.image();
        y.stand(1, 9, 9);
        y.tell(EchoGorge.NONE);
        y.sing(15, EchoGorge.NONE);
        CHECK.due("of a new object", y.restore(), true);
        CHECK.due("as new", Seen.of(y), Seen.of(new EchoGorge()));
    }

    /** 200 said, 60 told, 16 sung. */
    private static void ofAll() {
        EchoGorge x = Check.made(GORGE);
        for (int i = 0; i < 200; i++) {
            x.say(i % 3, i / 3 + (i % 3 == 0 ? 0 : 100));
        }
        for (int i = 0; i < 60; i++) {
            x.tell(i % 4 - 1);
        }
        for (int i = 0; i < 16; i++) {
            x.sing(i, i % 3);
        }
        x.stand(2, 30, 30);
        String heard = hearing(x);
        int clashes = x.round(0);
        x.image();
        CHECK.due("all hushed", x.hush(), 200);
        CHECK.due("all untold", x.untell(), 60);
        x.sing(15, EchoGorge.NONE);
        x.stand(2, 0, 0);
        CHECK.due("restore", x.restore(), true);
        CHECK.due("200 said", x.count(4), 200);
        CHECK.due("60 told", x.count(5), 60);
        CHECK.due("16 sung", x.round(2), 16);
        CHECK.due("clashes", x.round(0), clashes);
        CHECK.due("an ear far away", x.matching(0, 42, 0), 0);
        CHECK.due("heard as it was", hearing(x), heard);
        CHECK.due("no more can be said", x.say(0, 199), EchoGorge.NONE);
        CHECK.due("no more can be told", x.tell(0), EchoGorge.NONE);
        CHECK.due("all hushed again", x.hush(), 200);
        CHECK.due("all untold again", x.untell(), 60);
    }

    private static String hearing(EchoGorge x) {
        StringBuilder all = new StringBuilder();
        for (int tick : new int[] {0, 1, 33, 66, 67, 68, 99, 100, 101, 150, 166, 167, 199, 200}) {
            all.append(x.heard(0, 12, tick)).append(' ');
        }
        return all.toString();
    }

    /** Each of the four is kept for itself. */
    private static void ofEachAlone() {
        for (int which = 0; which < 4; which++) {
            EchoGorge x = Check.made(GORGE);
            busy(x);
            x.image();
            String seen = Seen.of(x);
            change(x, which);
            CHECK.due("it is otherwise", Seen.of(x).equals(seen), false);
            CHECK.due("restore", x.restore(), true);
            CHECK.due("as it was: " + which, Seen.of(x), seen);
        }
    }

    private static void change(EchoGorge x, int which) {
        switch (which) {
            case 0 -> x.say(2, 1);
            case 1 -> x.tell(2);
            case 2 -> x.sing(3, 2);
            default -> x.stand(2, 8, 30);
        }
    }

    private static void inPlaceOfAnother() {
        EchoGorge x = Check.made(GORGE);
        x.image();
        busy(x);
        x.image();
        String seen = Seen.of(x);
        otherwise(x);
        CHECK.due("restore", x.restore(), true);
        CHECK.due("as the later one", Seen.of(x), seen);
    }

    private static void manyRestores() {
        EchoGorge x = Check.made(GORGE);
        busy(x);
        x.image();
        String seen = Seen.of(x);
        CHECK.due("of what is there", x.restore(), true);
        for (int i = 0; i < 2; i++) {
            otherwise(x);
            CHECK.due("restore", x.restore(), true);
        }
        CHECK.due("always the same", Seen.of(x), seen);
    }

    private static void whatIsNotInIt() {
        EchoGorge x = Check.made(GORGE);
        x.image();
        x.say(0, -1);
        for (int i = 0; i < 62; i++) {
            x.tell(EchoGorge.NONE);
        }
        x.feed(0, 0, 0, 0, 0);
        Check.gorge(x, "x");
        x.feed(0, 0, 0, 0, 0);
        CHECK.due("restore", x.restore(), true);
        // the tape was emptied by gorge()
        CHECK.due("tape, fault and status stay", Seen.besides(x), "tape 20 fault 0 status 1 1 2");
        CHECK.due("what was told is gone", x.count(5), 0);
    }

    private static void goneWithAGorge() {
        for (String text : new String[] {"", GORGE}) {
            EchoGorge x = Check.made(GORGE);
            busy(x);
            x.image();
            CHECK.due("a text", Check.gorge(x, text), 0);
            String seen = Seen.of(x);
            CHECK.due("no image", x.restore(), false);
            CHECK.due("all is as the text made it", Seen.of(x), seen);
            x.image();
            CHECK.due("a new one", x.restore(), true);
        }
    }

    private static void stayingWithAFault() {
        EchoGorge x = Check.made(GORGE);
        busy(x);
        x.image();
        String seen = Seen.of(x);
        otherwise(x);
        CHECK.due("a fault", Check.gorge(x, "sound 5 0;sound 5;"), 1);
        CHECK.dueThrow("no text at all", IllegalArgumentException.class, () -> x.gorge(1));
        CHECK.due("restore", x.restore(), true);
        CHECK.due("as it was", Seen.of(x), seen);
    }
}
