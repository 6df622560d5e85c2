/** Promises 27 and 28: image, restore. */
public final class ImageTest {
    private static final Check CHECK = new Check();

    public static void main(String[] args) {
        keepsAll();
        inPlaceOfAnother();
        goneWithAGorge();
        CHECK.end();
    }

    private static void fill(EchoGorge x) {
        x.say(0, 5);
        x.say(1, 6);
        x.tell(1);
        x.tell(-1);
        x.tell(0);
        x.sing(0, 0);
        x.sing(1, 1);
        x.stand(0, 1, 2);
        x.stand(1, 30, 0);
        x.stand(2, 0, 30);
    }

    private static String seen(EchoGorge x) {
        StringBuilder all = new StringBuilder();
        for (int tick = 0; tick < 20; tick++) {
            all.append(x.heard(0, 12, tick)).append(' ');
        }
        all.append(x.count(4)).append(' ').append(x.count(5)).append(' ').append(x.sayers(0)).append(' ');
        all.append(x.sayers(2)).append(' ').append(x.round(0)).append(' ').append(x.round(2)).append(' ');
        all.append(x.matching(28, 27, -1)).append(' ').append(x.matching(0, 0, -1)).append(' ').append(x.rivals(50, 0));
        return all.toString();
    }

    private static void keepsAll() {
        EchoGorge x = Check.made("sound 50 0;sound 40 1;wall 3 9 9 50;wall 1 9 9 30;");
        String empty = seen(x);
        CHECK.due("no image", x.restore(), false);
        fill(x);
        String full = seen(x);
        CHECK.due("it differs", full.equals(empty), false);
        x.image();
        x.hush();
        x.untell();
        x.sing(0, 1);
        x.sing(9, 0);
        x.stand(0, 0, 0);
        x.stand(1, 0, 0);
        x.stand(2, 0, 0);
        x.say(0, 7);
        x.say(0, 200);
        CHECK.due("restore", x.restore(), true);
        CHECK.due("all is as it was", seen(x), full);
        CHECK.due("status is not in it", x.count(8), 1);
        x.hush();
        x.sing(0, -1);
        CHECK.due("the image stays", x.restore(), true);
        CHECK.due("as it was", seen(x), full);
        x.say(1, 9);
        CHECK.due("what comes behind a restore is not in the image", x.restore(), true);
        CHECK.due("as it was", seen(x), full);
    }

    private static void inPlaceOfAnother() {
        EchoGorge x = Check.made("sound 50 0;sound 40 1;");
        fill(x);
        x.image();
        x.hush();
        x.image();
        x.say(0, 0);
        CHECK.due("restore", x.restore(), true);
        CHECK.due("the later image", x.count(4), 0);
        EchoGorge y = new EchoGorge();
        y.image();
        CHECK.due("an image of nothing", y.restore(), true);
    }

    private static void goneWithAGorge() {
        EchoGorge x = Check.made("sound 50 0;sound 40 1;");
        x.image();
        CHECK.due("a text with a fault", Check.gorge(x, "sound;"), 1);
        CHECK.due("the image stays", x.restore(), true);
        CHECK.due("a text without", Check.gorge(x, "sound 5 0;"), 0);
        CHECK.due("the image is gone", x.restore(), false);
    }
}
