import java.util.NoSuchElementException;

/** The edges of a gorge's text (Terms, promises 1 to 7): each number on both sides, each token's place, the fullest. */
public final class TextEdgesTest {
    private static final Check CHECK = new Check();
    private static final String SOUNDS = "sound 50 0;sound 40 1;sound 30 2;";

    /** A number that must stand at the #, from least to most. */
    private record Bound(String text, int least, int most) { }

    private static final Bound[] BOUNDS = {
        new Bound("sound # 0;", 1, 99), new Bound("sound 5 #;", 0, 3), new Bound("wall # 1 1 50;", 1, 40),
        new Bound("wall 1 # 1 50;", 1, 40), new Bound("wall 1 1 # 50;", 1, 40), new Bound("wall 1 1 1 #;", 0, 100),
        new Bound("wall 1 1 1 50 swallows #;", 0, 3), new Bound("wall 1 1 1 50 swallows # again 1;", 0, 3),
        new Bound("wall 1 1 1 50 again #;", 1, 3), new Bound("wall 1 1 1 50 swallows 1 again #;", 1, 3),
        new Bound("straight # 0;", 0, 40), new Bound("straight 0 #;", 0, 40), new Bound("air # 50;", 0, 23),
        new Bound("air 5 #;", 0, 100), new Bound("mask # 0 0;", 1, 99), new Bound("mask 1 # 0;", 0, 9),
        new Bound("mask 1 0 #;", 0, 99), new Bound(SOUNDS + "word # 0;", 0, 3), new Bound("form #;", 0, 3)};

    /** Numbers that may stand there or not, so that a ; is fine in their place. */
    private static final Bound[] PERHAPS = {new Bound("form 0 #;", 0, 3), new Bound("form 0 0 #;", 0, 3)};

    private static final String[] SOUND_PLACES = {"sweet # 1;", "sweet 0 #;", "word 0 #;", "word 0 0 #;", "word 0 0 0 #;",
        "word 0 0 0 0 #;"};

    public static void main(String[] args) {
        newObject();
        lastCalls();
        numbers();
        soundsToldAhead();
        digits();
        signsThatAreNone();
        signsOfTokens();
        tooSoon();
        firstFault();
        leastFaultOfAToken();
        sortsSwallowedAlready();
        toldTwice();
        atMost();
        longest();
        emptyGorge();
        valuesAtBothEnds();
        tapeEdges();
        gorgeEdges();
        faultPlaces();
        countEdges();
        wallEdges();
        wordEdges();
        allAnew();
        CHECK.end();
    }

    /** No SOUNDS, no WALLS, and nothing else. */
    private static void newObject() {
        EchoGorge x = new EchoGorge();
        for (int what = 0; what <= 10; what++) {
            CHECK.due("new count(" + what + ")", x.count(what), 0);
        }
        CHECK.due("new fault", x.fault(), EchoGorge.NONE);
        CHECK.dueThrow("new wall", NoSuchElementException.class, () -> x.wall(0, 0));
        CHECK.dueThrow("new word", NoSuchElementException.class, () -> x.word(0, 0));
        CHECK.dueThrow("new say", NoSuchElementException.class, () -> x.say(0, 0));
        CHECK.dueThrow("new loud", NoSuchElementException.class, () -> x.loud(0, 0, 0, 0));
        CHECK.dueThrow("new line", NoSuchElementException.class, () -> x.line(0, EchoGorge.NONE, 0));
        CHECK.dueThrow("new without", NoSuchElementException.class, () -> x.without(0, 0));
        CHECK.dueThrow("new sing", NoSuchElementException.class, () -> x.sing(0, 0));
        CHECK.dueThrow("new tell", NoSuchElementException.class, () -> x.tell(0));
        CHECK.dueThrow("new code", NoSuchElementException.class, () -> x.code(0, 0));
        CHECK.dueThrow("new gorge", IllegalArgumentException.class, () -> x.gorge(1));
        int[] lines = {0, 0, EchoGorge.NONE, 0, 0};
        int[] rivals = {1351, 0, (1 << 20) - 1, 0, EchoGorge.NONE, 0};
        int[] sayers = {1, 0, 0};
        for (int what = 0; what < 6; what++) {
            CHECK.due("new lines(0, " + what % 5 + ")", x.lines(0, what % 5), lines[what % 5]);
            CHECK.due("new rivals(1, " + what + ")", x.rivals(1, what), rivals[what]);
            CHECK.due("new sayers(" + what % 3 + ")", x.sayers(what % 3), sayers[what % 3]);
            CHECK.due("new round(" + what % 3 + ")", x.round(what % 3), 0);
        }
        CHECK.due("new heard", x.heard(0, 0, 0), EchoGorge.NONE);
        CHECK.due("new still", x.still(0, 0), 0);
        CHECK.due("new lasts", x.lasts(0), EchoGorge.NONE);
        CHECK.due("new hush and untell", x.hush() + x.untell(), 0);
        CHECK.due("new matching", x.matching(0, 0, EchoGorge.NONE), 961);
        CHECK.due("new moved", x.moved(0, 0, 0, 0, 0), 961);
        CHECK.due("new restore", x.restore(), false);
        CHECK.due("new sing of a rest", x.sing(0, EchoGorge.NONE), 1);
        CHECK.due("new tell of nothing", x.tell(EchoGorge.NONE), 1);
        CHECK.due("new feed", x.feed(0, 0, 0, 0, 0), 20);
    }

    /** The 512th call is promised as much as the first. */
    private static void lastCalls() {
        EchoGorge x = new EchoGorge();
        CHECK.due("the first call", x.feed(0x736f756e, 0x64203132, 0x20333b20, 0x20202020, 0x20202020), 20);
        CHECK.due("the second", x.gorge(20), 0);
        for (int call = 3; call < 508; call++) {
            CHECK.due("call " + call, call < 203 ? x.say(0, call - 3) : x.heard(0, 12, 200 - call % 2), call < 203 ? call - 2
                    : call % 2 == 1 ? 0 : EchoGorge.NONE);
        }
        CHECK.due("the 508th", x.say(0, 0), EchoGorge.NONE);
        CHECK.due("the 509th", x.count(8), 1);
        CHECK.due("the 510th", x.hush(), 200);
        CHECK.due("the 511th", x.rivals(100, 0), 1351);
        CHECK.due("the 512th", x.say(0, 199), 1);
    }

    /** A text, its fault (0: none) and the place of it. */
    private static void text(String text, int fault, int place) {
        EchoGorge x = new EchoGorge();
        CHECK.due("gorge of \"" + text + "\"", Check.gorge(x, text), fault);
        CHECK.due("fault() of \"" + text + "\"", x.fault(), fault == 0 ? EchoGorge.NONE : place);
        CHECK.due("status of \"" + text + "\"", x.count(7), fault == 0 ? 0 : 1);
    }

    private static void fine(String text) {
        text(text, 0, 0);
    }

    private static void put(String text, String token, int fault) {
        text(text.replace("#", token), fault, text.indexOf('#'));
    }

    private static void numbers() {
        for (Bound b : BOUNDS) {
            bound(b);
            put(b.text, ";", 1);
        }
        for (Bound b : PERHAPS) {
            bound(b);
        }
    }

    private static void bound(Bound b) {
        put(b.text, "" + b.least, 0);
        put(b.text, "" + b.most, 0);
        put(b.text, String.format("%04d", b.least), 0);
        put(b.text, String.format("%04d", b.most), 0);
        if (b.least > 0) {
            put(b.text, "" + (b.least - 1), 2);
        }
        put(b.text, "" + (b.most + 1), 2);
        put(b.text, "1000", 2);
        put(b.text, "9999", 2);
        put(b.text, String.format("%05d", b.least), 2);
        put(b.text, String.format("%05d", b.most), 2);
        // 2 to the 32nd and 64th and so much more, which would be least or most if digits were lost
        put(b.text, "" + (4294967296L + b.least), 2);
        put(b.text, "1844674407370955" + (1616 + b.most), 2);
        put(b.text, "x", 1);
        put(b.text, "sound", 1);
        put(b.text, "-" + b.most, 1);
        String cut = b.text.substring(0, b.text.indexOf('#'));
        text(cut, 1, cut.length());
        text(cut + " \n", 1, cut.length() + 2);
    }

    private static void soundsToldAhead() {
        for (String place : SOUND_PLACES) {
            String line = SOUNDS + place;
            put(line, "2", 0);
            put(line, "0002", 0);
            put(line, "3", 3);
            put(line, "9999", 3);
            put(line, "00002", 2);
            put(line, "10000", 2);
            put(line, "x", 1);
            // without a sound none is told ahead; a sound told behind isn't told ahead
            text(place.replaceAll("[01#](?=[ ;])", "0"), 3, place.startsWith("sweet") ? 6 : 7);
        }
        text("word 0 0;sound 5 0;", 3, 7);
        text("sound 5 0;sweet 0 1;sound 5 0;", 3, 18);
        text("sound 5 0;word 0 0 1;sound 5 0;", 3, 19);
        fine("sound 5 0;".repeat(8) + "sweet 7 0;sweet 0 7;word 0 7;");
        text("sound 5 0;".repeat(7) + "word 0 7;", 3, 77);
    }

    private static void digits() {
        fine("sound 1 0;sound 01 00;sound 001 000;sound 0001 0000;");
        text("sound 00001 0;", 2, 6);
        text("sound 5 00000;", 2, 8);
        text("sound 1 2345;", 2, 8);
        // a number that can't stand there is no matter how long
        text("00001", 1, 0);
        text("sound 5 0 12345;", 1, 10);
        text("sound 5 0;12345", 1, 10);
    }

    /** Bytes next to the letters, the digits, the ; and the blanks are tokens nowhere. */
    private static void signsThatAreNone() {
        int[] none = {0, 1, 9, 11, 12, 13, 31, 33, 34, 39, 44, 45, 46, 47, 58, 60, 64, 65, 90, 91, 95, 96, 123, 126, 127, 128,
            160, 233, 255};
        for (int sign : none) {
            String s = String.valueOf((char) sign);
            text(s, 1, 0);
            text("sound 5 0;" + s, 1, 10);
            text("sound 5 0" + s + ";", 1, 9);
            text("sound" + s + "5 0;", 1, 5);
            text("sound 5" + s + "0;", 1, 7);
            text("soun" + s + "d 5 0;", 1, 0);
            text("sound 5 0;  " + s + s, 1, 12);
        }
        for (char blank : new char[] {' ', '\n'}) {
            fine("" + blank);
            fine("sound" + blank + "5" + blank + blank + "0" + blank + ";" + blank);
            fine(blank + "sound 5 0;");
            // a blank ends a word and a number
            text("soun" + blank + "d 5 0;", 1, 0);
            text("sound 5" + blank + "0 0;", 1, 10);
        }
    }

    private static void signsOfTokens() {
        // the longest row of letters is one word, from a to z
        for (String more : new String[] {"a", "m", "z", "sound"}) {
            text("sound" + more + " 5 0;", 1, 0);
            text(more + "sound 5 0;", 1, 0);
        }
        for (String word : new String[] {"sound", "wall", "straight", "air", "mask", "sweet", "word", "form"}) {
            text(word.substring(1) + " 1 1 1 1;", 1, 0);
            text(word.substring(0, word.length() - 1) + " 1 1 1 1;", 1, 0);
            text(word + word + " 1 1 1 1;", 1, 0);
            text(word.toUpperCase() + " 1 1 1 1;", 1, 0);
            text(word + ";", 1, word.length());
        }
        fine("sound 99 3;sound 10 0;sound 89 1;");
        // no blank is asked between tokens that are apart without it
        fine("sound5 0;wall1 1 1 9swallows0 1again2;straight1 1;air5 5;mask1 0 0;sound5 0;sweet0 1;word0 0;form0;");
    }

    /** A text that ends behind any token but a ; ends too soon, and its length is the fault's place. */
    private static void tooSoon() {
        String[] tokens = ("sound 5 0 ; sound 6 1 ; wall 1 2 3 4 swallows 1 2 again 3 ; wall 1 1 1 1 again 1 ; straight 1 2 ; "
                + "air 3 4 ; mask 1 2 3 ; sweet 0 1 ; word 0 1 0 1 0 ; form 0 1 2 ;").split(" ");
        StringBuilder text = new StringBuilder();
        for (String token : tokens) {
            text.append(token);
            boolean whole = token.equals(";");
            text(text.toString(), whole ? 0 : 1, text.length());
            text(text + "\n ", whole ? 0 : 1, text.length() + 2);
            // what the tape has behind the n bytes is no part of the text
            EchoGorge x = new EchoGorge();
            Check.feed(x, text + " ; ; ; ; ; ; ; ; ; ; ; ;");
            CHECK.due("gorge of the first bytes alone", x.gorge(text.length()), whole ? 0 : 1);
            CHECK.due("its end", x.fault(), whole ? EchoGorge.NONE : text.length());
            text.append(' ');
        }
    }

    private static void firstFault() {
        text("sound 0 4;", 2, 6);
        text("sound 5 4;foo", 2, 8);
        text("foo;sound 0 4;", 1, 0);
        text("sound 5 0;sweet 0 0;sweet 1 1;", 4, 18);
        text("mask 1 0 0;mask 0 0 0;", 5, 11);
        text("straight 1 1;straight 99 1;", 5, 13);
        text("air 5 5;air 5 101;", 5, 12);
        text("wall 1 1 1 1 swallows 1 1 9;", 4, 24);
        text("sound 5 0;word 4 1;", 2, 15);
        text("sound 5 0;word 0 1 9 9 9 9;", 3, 17);
        // a line that ends with a fault behind its numbers counts as one told
        text("sound 5 0;".repeat(8) + "wall 0", 2, 85);
    }

    private static void leastFaultOfAToken() {
        // 1 ahead of 2
        text("sound 5 0 99999;", 1, 10);
        text("form 0 0 0 sound;", 1, 11);
        // 2 ahead of 3
        text("sound 5 0;word 0 0 0 0 0 1;", 2, 25);
        text("sound 5 0;word 0 0 0 0 0 99999;", 2, 25);
        text("sound 5 0;sweet 99999 0;", 2, 16);
        text("sound 5 0;".repeat(8) + "sweet 99999 0;", 2, 86);
        // 2 ahead of 4
        text("wall 1 1 1 1 swallows 0 1 2 3 4;", 2, 30);
        text("wall 1 1 1 1 swallows 0 00000;", 2, 24);
        text("sound 5 0;sweet 0 00000;", 2, 18);
        // 3 ahead of 4
        text("sound 5 0;sweet 1 1;", 3, 16);
        text("sweet 0 0;", 3, 6);
        // 2 ahead of 5
        text("air 5 5;air 00005 5;", 2, 12);
        text("air 23 5;air 24 5;", 2, 13);
    }

    private static void sortsSwallowedAlready() {
        fine("wall 1 1 1 1 swallows 0 1 2 3;");
        fine("wall 1 1 1 1 swallows 3;wall 1 1 1 1 swallows 3;");
        for (int sort = 0; sort < 4; sort++) {
            text("wall 1 1 1 1 swallows " + sort + " " + sort + ";", 4, 24);
            text("wall 1 1 1 1 swallows 0 1 2 3 " + sort + ";", 4, 30);
        }
        text("wall 1 1 1 1 swallows 0 1 2 3 again 1 0;", 1, 38);
        text("wall 1 1 1 1 swallows 0 1 2 3 again;", 1, 35);
        text("wall 1 1 1 1 swallows 0 again 1 again 1;", 1, 32);
        text("wall 1 1 1 1 swallows 0 swallows 0;", 1, 24);
    }

    private static void toldTwice() {
        for (int hour = 0; hour < 24; hour++) {
            text("air " + hour + " 5;air " + hour + " 5;", 5, hour < 10 ? 12 : 13);
            fine("air " + hour + " 5;air " + (hour + 1) % 24 + " 5;");
        }
        StringBuilder all = new StringBuilder();
        for (int hour = 0; hour < 24; hour++) {
            all.append("air ").append(hour).append(" 0;");
        }
        fine(all.toString());
        text(all + "air 0 0;", 5, all.length() + 4);
        text("straight 0 0;straight 0 0;", 5, 13);
        text("straight 0 0;straight", 5, 13);
        text("mask 1 0 0;mask 1 0 0;", 5, 11);
        text("mask 1 0 0;mask", 5, 11);
        // couples may be told twice, words and forms be like others
        fine(SOUNDS + "sweet 0 1;sweet 0 1;sweet 1 0;word 0 0;word 0 0;form 0;form 0;");
        // what a text with a fault told is not told any more
        EchoGorge x = new EchoGorge();
        CHECK.due("a fault", Check.gorge(x, "air 5 5;straight 1 1;mask 1 0 0;x"), 1);
        CHECK.due("again", Check.gorge(x, "air 5 5;straight 1 1;mask 1 0 0;"), 0);
        CHECK.due("and again", Check.gorge(x, "air 5 5;straight 1 1;mask 1 0 0;"), 0);
    }

    private static void atMost() {
        most("sound 5 0;", 8, 0, "");
        most("wall 1 1 1 1;", 6, 1, "");
        most("word 0 0;", 8, 2, "sound 5 0;");
        most("form 0;", 6, 3, "");
        fine("sound 5 0;word 0 0 0 0 0;");
        text("sound 5 0;word 0 0 0 0 0 0;", 2, 25);
        fine("form 0 0 0;");
        text("form 0 0 0 0;", 2, 11);
        text("form 0 0 0 4;", 2, 11);
        text("form 0 0 0 x;", 1, 11);
        text("sound 5 0;word 0 0 0 0 0 x;", 1, 25);
    }

    private static void most(String line, int most, int what, String ahead) {
        String word = line.substring(0, line.indexOf(' '));
        String full = ahead + line.repeat(most);
        CHECK.due("as many as can be of " + line, Check.made(full).count(what), most);
        text(full + line, 2, full.length());
        text(full + word, 2, full.length());
        text(full + word + " x", 2, full.length());
        text(full + " " + line, 2, full.length() + 1);
        // other lines still may come
        fine(full + "air 5 5;");
        text(full + "air 5 5;" + line, 2, full.length() + 8);
    }

    private static void longest() {
        String line = "sound 5 3;";
        EchoGorge x = new EchoGorge();
        CHECK.due("700 bytes", Check.feed(x, " ".repeat(690) + line), 700);
        CHECK.due("are a text", x.gorge(700), 0);
        CHECK.due("up to its end", x.count(0), 1);
        text(" ".repeat(699) + "x", 1, 699);
        text(" ".repeat(699) + "5", 1, 699);
        text(line + " ".repeat(690), 0, 0);
        text("sound" + " ".repeat(695), 1, 700);
        text(" ".repeat(691) + "sound 5 3", 1, 700);
        text(" ".repeat(692) + "sound 55", 1, 700);
        text("a".repeat(700), 1, 0);
        text("sound " + "9".repeat(694), 2, 6);
    }

    private static void emptyGorge() {
        for (String empty : new String[] {"", " ", "\n\n \n", " ".repeat(700)}) {
            EchoGorge x = Check.made("sound 5 0;wall 1 1 1 1;word 0 0;form 0;");
            CHECK.due("an empty text", Check.gorge(x, empty), 0);
            CHECK.due("is as a new object", Seen.of(x), Seen.of(new EchoGorge()));
            CHECK.due("has no fault", x.fault(), EchoGorge.NONE);
        }
    }

    /** The least and the most are not only taken, they count. */
    private static void valuesAtBothEnds() {
        EchoGorge x = Check.made("sound 1 0;sound 99 3;wall 1 40 1 0 swallows 0 again 1;wall 40 1 40 100 swallows 3 again 3;"
                + "straight 0 40;air 0 0;air 23 100;mask 99 9 99;word 0 0;word 3 1 1 1 1;form 0;form 3 3 3;");
        int[] walls = {1, 40, 1, 0, 1, 1, 40, 1, 40, 100, 8, 3};
        for (int i = 0; i < 12; i++) {
            CHECK.due("wall(" + i / 6 + ", " + i % 6 + ")", x.wall(i / 6, i % 6), walls[i]);
        }
        int[] words = {0, 1, 0, 3, 4, 1, 1, 1, 1};
        for (int i = 0; i < 9; i++) {
            CHECK.due("word " + i, x.word(i / 3 > 0 ? 1 : 0, i < 3 ? i : i - 3), words[i]);
        }
        x.say(0, 0);
        x.say(1, 0);
        CHECK.due("loud 1", x.loud(0, 12, 0, 0), 1);
        CHECK.due("loud 99", x.loud(0, 12, 0, 1), 99);
        CHECK.due("straight 0", x.loud(1, 12, 0, 1), 99);
        CHECK.due("straight 40", x.loud(2, 12, 40, 1), 99);
        CHECK.due("not sooner", x.loud(2, 12, 39, 1), 0);
        CHECK.due("no air at 0", x.loud(0, 0, 40, 0), 0);
        CHECK.due("all air at 23", x.loud(0, 23, 40, 0), 1);
        CHECK.due("all air where none is told", x.loud(0, 22, 120, 0), 1);
        CHECK.due("least 99", x.heard(0, 12, 0), 1);
        CHECK.due("below it", x.heard(0, 12, 40), EchoGorge.NONE);
        CHECK.due("the two forms of kinds 0 and 3", x.count(10), 2);
    }

    private static void tapeEdges() {
        EchoGorge x = new EchoGorge();
        CHECK.due("an empty tape", x.count(6), 0);
        for (int fed = 20; fed <= 680; fed += 20) {
            CHECK.due("feed", x.feed(0x20202020, 0x20202020, 0x20202020, 0x20202020, 0x20202020), fed);
        }
        // the numbers' order, and of each the highest byte first: "sound 12 3;" behind blanks
        CHECK.due("the last twenty", x.feed(0x20202020, 0x20202020, 0x20736f75, 0x6e642031, 0x3220333b), 700);
        CHECK.due("no more", x.feed(0x78787878, 0x78787878, 0x78787878, 0x78787878, 0x78787878), EchoGorge.NONE);
        CHECK.due("none came", x.count(6), 700);
        CHECK.due("again no more", x.feed(0, 0, 0, 0, 0), EchoGorge.NONE);
        CHECK.due("no fault of it", x.fault(), EchoGorge.NONE);
        CHECK.due("it is no status", x.count(7) + x.count(8) + x.count(9), 0);
        CHECK.due("the tape as it was", x.gorge(700), 0);
        CHECK.due("its sound", x.count(0), 1);
        x.say(0, 0);
        CHECK.due("of 12", x.loud(0, 12, 0, 0), 12);
        CHECK.due("the tape is empty", x.count(6), 0);
        CHECK.due("it can be fed again", x.feed(-1, Integer.MIN_VALUE, Integer.MAX_VALUE, 0, 1), 20);
        CHECK.due("a byte of 255", x.gorge(1), 1);
        CHECK.due("its place", x.fault(), 0);
        CHECK.due("empty with a fault too", x.count(6), 0);
    }

    private static void gorgeEdges() {
        EchoGorge x = new EchoGorge();
        CHECK.dueThrow("gorge(1) of an empty tape", IllegalArgumentException.class, () -> x.gorge(1));
        CHECK.due("gorge(0) of an empty tape", x.gorge(0), 0);
        Check.feed(x, "sound 5 0;sound 6 1;x");
        for (int n : new int[] {-1, 41, Integer.MIN_VALUE, Integer.MAX_VALUE}) {
            CHECK.dueThrow("gorge(" + n + ")", IllegalArgumentException.class, () -> x.gorge(n));
        }
        CHECK.due("the tape is as it was", x.count(6), 40);
        CHECK.due("no status", x.count(7), 0);
        CHECK.due("no fault", x.fault(), EchoGorge.NONE);
        CHECK.due("all of them have a fault", x.gorge(40), 1);
        CHECK.due("at the x", x.fault(), 20);
        Check.feed(x, "sound 5 0;sound 6 1;x");
        CHECK.due("the first 20", x.gorge(20), 0);
        CHECK.due("two sounds", x.count(0), 2);
        Check.feed(x, "x");
        CHECK.due("the first none of 20", x.gorge(0), 0);
        CHECK.due("the others are gone", x.count(6), 0);
        CHECK.due("all anew", x.count(0), 0);
    }

    private static void faultPlaces() {
        EchoGorge x = new EchoGorge();
        CHECK.due("new", x.fault(), EchoGorge.NONE);
        Check.gorge(x, "x");
        CHECK.due("the first place", x.fault(), 0);
        Check.gorge(x, " ".repeat(699) + "x");
        CHECK.due("the last place", x.fault(), 699);
        Check.gorge(x, " ".repeat(695) + "sound");
        CHECK.due("behind the last", x.fault(), 700);
        CHECK.dueThrow("gorge(-1)", IllegalArgumentException.class, () -> x.gorge(-1));
        CHECK.due("of the latest gorge()", x.fault(), 700);
        CHECK.due("three texts", x.count(7), 3);
        CHECK.due("without fault", Check.gorge(x, "sound 5 0;"), 0);
        CHECK.due("none", x.fault(), EchoGorge.NONE);
        CHECK.due("status stays", x.count(7), 3);
    }

    private static void countEdges() {
        EchoGorge x = Check.made("sound 5 0;".repeat(8) + "wall 1 1 1 1;".repeat(6) + "word 0 0;".repeat(8)
                + "form 0 0 0;".repeat(6));
        for (int i = 0; i < 200; i++) {
            x.say(i % 8, i / 8);
        }
        for (int i = 0; i < 60; i++) {
            x.tell(EchoGorge.NONE);
        }
        x.say(0, 199);
        x.tell(0);
        x.tell(0);
        for (int i = 0; i < 35; i++) {
            x.feed(0, 0, 0, 0, 0);
        }
        int[] full = {8, 6, 8, 6, 200, 60, 700, 0, 1, 2, 3072};
        for (int what = 0; what <= 10; what++) {
            CHECK.due("full count " + what, x.count(what), full[what]);
        }
        for (int what : new int[] {-1, 11, Integer.MIN_VALUE, Integer.MAX_VALUE}) {
            CHECK.dueThrow("count(" + what + ")", NoSuchElementException.class, () -> x.count(what));
            CHECK.dueThrow("new count(" + what + ")", NoSuchElementException.class, () -> new EchoGorge().count(what));
        }
        // a form of a kind without a word has no line; kinds without words alone have none
        CHECK.due("no line of such forms", Check.made("sound 5 0;word 0 0;word 2 0;form 0 1 2;form 3;form 2 2 3;").count(10), 0);
        CHECK.due("one line", Check.made("sound 5 0;word 2 0;form 3;form 2 2 2;").count(10), 1);
        CHECK.due("words without forms", Check.made("sound 5 0;word 2 0;").count(10), 0);
        CHECK.due("forms without words", Check.made("form 2;form 0 1 3;").count(10), 0);
    }

    private static void wallEdges() {
        EchoGorge x = Check.made("wall 1 2 3 50;".repeat(5) + "wall 4 5 6 70 swallows 0 1 2 3 again 3;");
        CHECK.due("the last wall", x.wall(5, 0) * 100 + x.wall(5, 1) * 10 + x.wall(5, 2), 456);
        CHECK.due("all sorts", x.wall(5, 4), 15);
        CHECK.due("no sorts", x.wall(4, 4), 0);
        CHECK.due("without again", x.wall(4, 5), 1);
        for (int wrong : new int[] {-1, 6, Integer.MIN_VALUE, Integer.MAX_VALUE}) {
            CHECK.dueThrow("wall(" + wrong + ", 0)", NoSuchElementException.class, () -> x.wall(wrong, 0));
            CHECK.dueThrow("wall(0, " + wrong + ")", NoSuchElementException.class, () -> x.wall(0, wrong));
        }
        for (int what = 0; what < 6; what++) {
            int w = what;
            CHECK.dueThrow("no wall 0", NoSuchElementException.class, () -> new EchoGorge().wall(0, w));
        }
        EchoGorge one = Check.made("wall 1 2 3 50;");
        CHECK.dueThrow("no wall 1", NoSuchElementException.class, () -> one.wall(1, 0));
    }

    private static void wordEdges() {
        EchoGorge x = Check.made("sound 5 0;sound 6 0;sound 7 0;" + "word 1 0;".repeat(6) + "word 2 2 1;word 3 2 1 0 2;");
        int[] last = {3, 4, 2, 1, 0, 2};
        for (int what = 0; what < 6; what++) {
            CHECK.due("word(7, " + what + ")", x.word(7, what), last[what]);
        }
        CHECK.due("the second of two", x.word(6, 3), 1);
        CHECK.dueThrow("the third of two", NoSuchElementException.class, () -> x.word(6, 4));
        CHECK.due("the one of one", x.word(0, 2), 0);
        CHECK.dueThrow("the second of one", NoSuchElementException.class, () -> x.word(0, 3));
        CHECK.dueThrow("the fifth of four", NoSuchElementException.class, () -> x.word(7, 6));
        for (int wrong : new int[] {-1, 8, Integer.MIN_VALUE, Integer.MAX_VALUE}) {
            CHECK.dueThrow("word(" + wrong + ", 0)", NoSuchElementException.class, () -> x.word(wrong, 0));
            CHECK.dueThrow("word(7, " + wrong + ")", NoSuchElementException.class, () -> x.word(7, wrong));
        }
        for (int what = 0; what < 6; what++) {
            int w = what;
            CHECK.dueThrow("no word 0", NoSuchElementException.class, () -> new EchoGorge().word(0, w));
        }
        EchoGorge one = Check.made("sound 5 0;word 0 0;");
        CHECK.dueThrow("no word 1", NoSuchElementException.class, () -> one.word(1, 0));
    }

    /** Full and empty gorges by turns, texts with faults between them: each is as if it were the only one. */
    private static void allAnew() {
        String full = "sound 50 0;sound 60 1;sound 50 1;sound 9 3;wall 2 3 4 90 swallows 1 again 3;wall 3 1 2 80;wall 5 5 5 70;"
                + "straight 7 9;air 12 70;air 5 60;mask 3 2 5;sweet 0 1;sweet 2 3;word 0 0 1;word 0 2;word 1 3 2;word 2 0 0 0 0;"
                + "form 0;form 0 1;form 2;form 1 0;";
        String[] texts = {full, "", "sound 50 0;sound 40 0;", full, "sound 50 0;wall 1 1 1 50;", "sound 40 2;sound 60 0;"
            + "wall 4 4 4 60;word 0 0;word 0 1 1;form 0;", "mask 50 9 9;", "sound 30 0;sound 20 1;wall 2 2 2 100;word 1 1;form 1;",
            "wall 7 7 7 7;form 0;form 1;", "sound 60 0;word 0 0;", full};
        for (int i = 0; i < texts.length; i++) {
            anew(texts[i], texts[(i + 1) % texts.length], texts[(i + 2) % texts.length]);
            anew(texts[(i + 5) % texts.length], texts[i], texts[i]);
            anew(full, texts[i], texts[(i + 3) % texts.length]);
        }
    }

    /** Two texts and one with a fault ahead of the latest leave nothing to be seen. */
    private static void anew(String first, String second, String latest) {
        EchoGorge x = Check.made(first);
        busy(x);
        CHECK.due("a fault", Check.gorge(x, "sound 1 1;sound 2 2;air 5 0;mask 9 9 9;word 0 0;word 3 1;form 3;x"), 1);
        CHECK.due("gorge of \"" + second + "\"", Check.gorge(x, second), 0);
        busy(x);
        CHECK.due("gorge of \"" + latest + "\"", Check.gorge(x, latest), 0);
        String ahead = "\"" + first + "\" and \"" + second + "\" ahead of \"" + latest + "\"";
        CHECK.due("as if it were the only one: " + ahead, Seen.of(x), Seen.of(Check.made(latest)));
        CHECK.due("no image", x.restore(), false);
        EchoGorge only = Check.made(latest);
        busy(x);
        busy(only);
        CHECK.due("and so on: " + ahead, Seen.of(x), Seen.of(only));
    }

    private static void busy(EchoGorge x) {
        for (int i = 0; i < 4 && i < x.count(0); i++) {
            x.say(i, 3 * i);
            x.tell(i);
            x.tell(EchoGorge.NONE);
            x.sing(2 * i, i);
        }
        x.stand(0, 3, 4);
        x.stand(1, 10, 0);
        x.stand(2, 5, 20);
        x.image();
        x.lines(12, 0);
        x.lasts(5);
        x.rivals(50, 0);
        x.sayers(0);
        x.heard(1, 5, 9);
    }
}
