import java.util.Arrays;
import java.util.NoSuchElementException;

/**
 * A gorge of walls that give back what is said. A text tells the gorge; then sounds are said, lines
 * tried, rounds sung, walls and places found out by what was heard.
 */
public final class EchoGorge {
    public static final int NONE = -1;

    private static final int MOST_SOUNDS = 8;
    private static final int MOST_WALLS = 6;
    private static final int MOST_AGAIN = 3;
    private static final int MOST_WORDS = 8;
    private static final int WORD_SOUNDS = 4;
    private static final int MOST_FORMS = 6;
    private static final int FORM_KINDS = 3;
    private static final int KINDS = 4;
    private static final int EARS = 3;
    private static final int HOURS = 24;
    private static final int NOON = 12;
    private static final int MOST_BYTES = 700;
    private static final int FED_BYTES = 20;
    private static final int MOST_SAID = 200;
    private static final int SAID_TICKS = 200;
    private static final int HEARD_TICKS = 400;
    private static final int TOLD_TICKS = 60;
    private static final int ROUND_TICKS = 16;
    private static final int SIDE = 31;
    private static final int GAPS = 16;
    private static final int FIRST_GAP = 2;

    private final byte[] tape = new byte[MOST_BYTES];
    private int taped = 0;
    private int faultPlace = NONE;
    private final int[] refused = new int[3];

    private Gorge now = new Gorge();
    private Gorge spare = new Gorge();
    private final Scene scene = new Scene();
    private final Scene kept = new Scene();
    private boolean isKept = false;

    private final Reader reader = new Reader();
    private final Returns returns = new Returns();
    private final Hearing hearing = new Hearing();
    private final Verses verses = new Verses();
    private final Chant chant = new Chant();
    private final Guess guess = new Guess();
    private final Truth truth = new Truth();
    private final Places places = new Places();
    private final Claps claps = new Claps();

    public EchoGorge() {
    }

    public int feed(int a, int b, int c, int d, int e) {
        if (taped + FED_BYTES > MOST_BYTES) {
            return NONE;
        }
        tapeNumber(a);
        tapeNumber(b);
        tapeNumber(c);
        tapeNumber(d);
        tapeNumber(e);
        return taped;
    }

    private void tapeNumber(int number) {
        for (int shift = 24; shift >= 0 && taped < MOST_BYTES; shift -= 8) {
            tape[taped] = (byte) (number >> shift);
            taped++;
        }
    }

    public int gorge(int n) throws IllegalArgumentException {
        if (n < 0 || n > taped) {
            throw new IllegalArgumentException();
        }
        taped = 0;
        int found = reader.read(tape, n, spare);
        if (found != 0) {
            faultPlace = reader.faultPlace;
            refused[0]++;
            return found;
        }
        faultPlace = NONE;
        Gorge old = now;
        now = spare;
        spare = old;
        scene.clear();
        isKept = false;
        returns.forget();
        verses.adopt(now);
        guess.forget();
        truth.forget();
        return 0;
    }

    public int fault() {
        return faultPlace;
    }

    public int count(int what) throws NoSuchElementException {
        switch (what) {
            case 0:
                return now.sounds;
            case 1:
                return now.walls;
            case 2:
                return now.words;
            case 3:
                return now.forms;
            case 4:
                return scene.saidMany;
            case 5:
                return scene.toldMany;
            case 6:
                return taped;
            case 7:
            case 8:
            case 9:
                return refused[what - 7];
            case 10:
                return verses.total;
            default:
                throw new NoSuchElementException();
        }
    }

    public int wall(int wall, int what) throws NoSuchElementException {
        needWall(wall);
        switch (what) {
            case 0:
            case 1:
            case 2:
                return now.delay[wall * EARS + what];
            case 3:
                return now.share[wall];
            case 4:
                return now.swallows[wall];
            case 5:
                return now.again[wall];
            default:
                throw new NoSuchElementException();
        }
    }

    public int word(int word, int what) throws NoSuchElementException {
        if (word < 0 || word >= now.words || what < 0) {
            throw new NoSuchElementException();
        }
        if (what == 0) {
            return now.kind[word];
        }
        if (what == 1) {
            return now.length[word];
        }
        if (what - 2 >= now.length[word]) {
            throw new NoSuchElementException();
        }
        return now.spelling[word * WORD_SOUNDS + what - 2];
    }

    public int say(int sound, int tick) throws NoSuchElementException {
        needSound(sound);
        if (!scene.addSaid(sound, tick)) {
            refused[1]++;
            return NONE;
        }
        guess.forget();
        return scene.saidMany;
    }

    public int hush() {
        int many = scene.saidMany;
        scene.clearSaid();
        guess.forget();
        return many;
    }

    public int heard(int ear, int hour, int tick) throws NoSuchElementException {
        needMoment(ear, hour, tick);
        returns.build(now, ear, now.air[hour], 0, NONE);
        hearing.attend(now, returns, scene.said, SAID_TICKS - 1);
        for (int t = Math.max(0, tick - now.window); t <= tick; t++) {
            hearing.measure(t);
        }
        return hearing.hears(tick);
    }

    public int loud(int ear, int hour, int tick, int sound) throws NoSuchElementException {
        needMoment(ear, hour, tick);
        needSound(sound);
        returns.build(now, ear, now.air[hour], 0, NONE);
        hearing.attend(now, returns, scene.said, SAID_TICKS - 1);
        return hearing.loudness(tick, sound);
    }

    public int lines(int hour, int what) throws NoSuchElementException {
        needHour(hour);
        if (what < 0 || what > 4) {
            throw new NoSuchElementException();
        }
        if (what == 4) {
            return verses.beginnings;
        }
        return verses.figure(verses.survey(hour, hearing, returns), what);
    }

    public int line(int hour, int i, int what) throws NoSuchElementException {
        needHour(hour);
        if (what < 0 || what > FORM_KINDS) {
            throw new NoSuchElementException();
        }
        int answer = verses.answering(verses.survey(hour, hearing, returns), i);
        if (answer == NONE) {
            throw new NoSuchElementException();
        }
        return verses.partOf(answer, what);
    }

    public int still(int hour, int fog) throws NoSuchElementException, IllegalArgumentException {
        needHour(hour);
        if (fog < 0 || fog > 100) {
            throw new IllegalArgumentException();
        }
        int like = verses.survey(hour, hearing, returns);
        returns.build(now, 0, now.air[hour], fog, NONE);
        return verses.countStill(like, hearing, returns, verses.total);
    }

    public int without(int hour, int wall) throws NoSuchElementException {
        needHour(hour);
        needWall(wall);
        int like = verses.survey(hour, hearing, returns);
        returns.build(now, 0, now.air[hour], 0, wall);
        return verses.countStill(like, hearing, returns, verses.total);
    }

    public int lasts(int hour) throws NoSuchElementException {
        needHour(hour);
        return verses.thickestFog(verses.survey(hour, hearing, returns), hearing, returns);
    }

    public int sing(int tick, int sound) throws NoSuchElementException {
        if (tick < 0 || tick >= ROUND_TICKS) {
            throw new NoSuchElementException();
        }
        if (sound != NONE) {
            needSound(sound);
        }
        scene.round[tick] = sound;
        scene.roundLength = Math.max(scene.roundLength, tick + 1);
        return scene.roundLength;
    }

    public int round(int what) throws NoSuchElementException {
        returns.build(now, 0, now.air[NOON], 0, NONE);
        switch (what) {
            case 0:
                return chant.clashes(now, returns, scene, scene.roundLength);
            case 1:
                return chant.rests(now, returns, scene);
            case 2:
                return scene.roundLength;
            default:
                throw new NoSuchElementException();
        }
    }

    public int tell(int sound) throws NoSuchElementException {
        if (sound != NONE) {
            needSound(sound);
        }
        if (scene.toldMany >= TOLD_TICKS) {
            refused[2]++;
            return NONE;
        }
        scene.told[scene.toldMany] = sound;
        scene.toldMany++;
        guess.forget();
        truth.forget();
        return scene.toldMany;
    }

    public int untell() {
        int many = scene.toldMany;
        scene.clearTold();
        guess.forget();
        truth.forget();
        return many;
    }

    public int rivals(int share, int what) throws NoSuchElementException, IllegalArgumentException {
        if (what < 0 || what > 5) {
            throw new NoSuchElementException();
        }
        if (share < 1 || share > 100) {
            throw new IllegalArgumentException();
        }
        guess.find(now, scene, hearing, share);
        return guess.answer[what];
    }

    public int sayers(int what) throws NoSuchElementException {
        if (what < 0 || what > 2) {
            throw new NoSuchElementException();
        }
        returns.build(now, 0, now.air[NOON], 0, NONE);
        truth.find(now, scene, hearing, returns);
        return truth.answer[what];
    }

    public boolean stand(int ear, int x, int y) throws NoSuchElementException {
        needEar(ear);
        if (x < 0 || x >= SIDE || y < 0 || y >= SIDE) {
            return false;
        }
        scene.earX[ear] = x;
        scene.earY[ear] = y;
        return true;
    }

    public int matching(int a, int b, int i) throws NoSuchElementException {
        int found = i == NONE ? places.countMatching(scene, a, b) : places.findMatching(scene, a, b, i);
        if (found == NONE) {
            throw new NoSuchElementException();
        }
        return found;
    }

    public int moved(int a, int b, int c, int d, int steps) throws IllegalArgumentException {
        if (steps < 0 || steps > 2 * (SIDE - 1)) {
            throw new IllegalArgumentException();
        }
        places.chart(scene, c, d);
        return places.countCouples(scene, a, b, steps);
    }

    public int code(int sound, int what) throws NoSuchElementException {
        needSound(sound);
        if (what < 0 || what >= FIRST_GAP + GAPS) {
            throw new NoSuchElementException();
        }
        returns.build(now, 0, now.air[NOON], 0, NONE);
        claps.compare(now, hearing, returns, sound);
        if (what >= FIRST_GAP) {
            return claps.together[what - FIRST_GAP];
        }
        int best = claps.choose();
        return what == 0 ? Integer.bitCount(best) : best;
    }

    public void image() {
        kept.copy(scene);
        isKept = true;
    }

    public boolean restore() {
        if (!isKept) {
            return false;
        }
        scene.copy(kept);
        guess.forget();
        truth.forget();
        return true;
    }

    private void needSound(int sound) {
        if (sound < 0 || sound >= now.sounds) {
            throw new NoSuchElementException();
        }
    }

    private void needWall(int wall) {
        if (wall < 0 || wall >= now.walls) {
            throw new NoSuchElementException();
        }
    }

    private void needEar(int ear) {
        if (ear < 0 || ear >= EARS) {
            throw new NoSuchElementException();
        }
    }

    private void needHour(int hour) {
        if (hour < 0 || hour >= HOURS) {
            throw new NoSuchElementException();
        }
    }

    private void needMoment(int ear, int hour, int tick) {
        needEar(ear);
        needHour(hour);
        if (tick < 0 || tick >= HEARD_TICKS) {
            throw new NoSuchElementException();
        }
    }

    /** The number of the lowest bit that is set; bits is not 0. */
    private static int lowestBit(int bits) {
        return Integer.bitCount((bits & -bits) - 1);
    }

    /** What a text told. */
    private static final class Gorge {
        int sounds;
        int walls;
        int words;
        int forms;
        int least;
        int window;
        int margin;
        final int[] loud = new int[MOST_SOUNDS];
        final int[] sort = new int[MOST_SOUNDS];
        final int[] sweet = new int[MOST_SOUNDS];
        final int[] delay = new int[MOST_WALLS * EARS];
        final int[] share = new int[MOST_WALLS];
        final int[] swallows = new int[MOST_WALLS];
        final int[] again = new int[MOST_WALLS];
        final int[] straight = new int[EARS];
        final int[] air = new int[HOURS];
        final int[] kind = new int[MOST_WORDS];
        final int[] length = new int[MOST_WORDS];
        final int[] spelling = new int[MOST_WORDS * WORD_SOUNDS];
        final int[] formLength = new int[MOST_FORMS];
        final int[] formKind = new int[MOST_FORMS * FORM_KINDS];

        Gorge() {
            clear();
        }

        void clear() {
            sounds = 0;
            walls = 0;
            words = 0;
            forms = 0;
            least = 1;
            window = 0;
            margin = 0;
            Arrays.fill(sweet, 0);
            Arrays.fill(straight, 0);
            Arrays.fill(air, 100);
        }

        boolean swallowsSound(int wall, int sound) {
            return (swallows[wall] >> sort[sound] & 1) != 0;
        }

        int foggedShare(int wall, int fog) {
            return share[wall] * (100 - fog) / 100;
        }
    }

    /** Reads a text into a gorge, token by token, up to its first fault. */
    private static final class Reader {
        private static final int END = 0;
        private static final int WORD = 1;
        private static final int NUMBER = 2;
        private static final int SEMICOLON = 3;
        private static final int NO_TOKEN = 4;

        private static final int MISPLACED = 1;
        private static final int TOO_MUCH = 2;
        private static final int UNTOLD = 3;
        private static final int TWICE = 4;
        private static final int AGAIN_TOLD = 5;

        private static final int DIGITS = 4;

        private byte[] text;
        private int end;
        private Gorge gorge;
        private int token;
        private int place;
        private int behind;
        private int value;
        private int airTold;
        private boolean straightTold;
        private boolean maskTold;
        private int fault;
        int faultPlace;

        /** 0, or the fault, whose place is then in faultPlace. */
        int read(byte[] tape, int n, Gorge into) {
            text = tape;
            end = Math.min(n, tape.length);
            gorge = into;
            gorge.clear();
            behind = 0;
            airTold = 0;
            straightTold = false;
            maskTold = false;
            fault = 0;
            faultPlace = NONE;
            step();
            boolean fine = true;
            for (int line = 0; line < MOST_BYTES && fine && token != END; line++) {
                fine = readLine();
            }
            return fault;
        }

        private boolean fail(int number) {
            fault = number;
            faultPlace = place;
            return false;
        }

        /** Goes on to the next token; every step passes a byte or meets the text's end. */
        private void step() {
            place = behind;
            while (place < end && (text[place] == ' ' || text[place] == '\n')) {
                place++;
            }
            behind = place;
            value = 0;
            if (place >= end) {
                token = END;
                return;
            }
            while (behind < end && isLetter(text[behind])) {
                behind++;
            }
            if (behind > place) {
                token = WORD;
                return;
            }
            while (behind < end && isDigit(text[behind])) {
                if (behind - place < DIGITS) {
                    value = value * 10 + text[behind] - '0';
                }
                behind++;
            }
            if (behind > place) {
                token = NUMBER;
                return;
            }
            token = text[place] == ';' ? SEMICOLON : NO_TOKEN;
            behind++;
        }

        private static boolean isLetter(byte sign) {
            return sign >= 'a' && sign <= 'z';
        }

        private static boolean isDigit(byte sign) {
            return sign >= '0' && sign <= '9';
        }

        private boolean spells(String word) {
            if (token != WORD || behind - place != word.length()) {
                return false;
            }
            for (int i = 0; i < word.length(); i++) {
                if (text[place + i] != word.charAt(i)) {
                    return false;
                }
            }
            return true;
        }

        private boolean isNumber(int least, int most) {
            if (token != NUMBER) {
                return fail(MISPLACED);
            }
            if (behind - place > DIGITS || value < least || value > most) {
                return fail(TOO_MUCH);
            }
            return true;
        }

        private boolean isToldSound() {
            if (!isNumber(0, 9999)) {
                return false;
            }
            return value < gorge.sounds || fail(UNTOLD);
        }

        private boolean readLine() {
            if (spells("sound")) {
                return readSound();
            }
            if (spells("wall")) {
                return readWall();
            }
            if (spells("straight")) {
                return readStraight();
            }
            if (spells("air")) {
                return readAir();
            }
            if (spells("mask")) {
                return readMask();
            }
            if (spells("sweet")) {
                return readSweet();
            }
            if (spells("word")) {
                return readWord();
            }
            if (spells("form")) {
                return readForm();
            }
            return fail(MISPLACED);
        }

        private boolean readEnd() {
            if (token != SEMICOLON) {
                return fail(MISPLACED);
            }
            step();
            return true;
        }

        private boolean readSound() {
            int sound = gorge.sounds;
            if (sound >= MOST_SOUNDS) {
                return fail(TOO_MUCH);
            }
            step();
            if (!isNumber(1, 99)) {
                return false;
            }
            gorge.loud[sound] = value;
            step();
            if (!isNumber(0, KINDS - 1)) {
                return false;
            }
            gorge.sort[sound] = value;
            gorge.sounds++;
            step();
            return readEnd();
        }

        private boolean readWall() {
            int wall = gorge.walls;
            if (wall >= MOST_WALLS) {
                return fail(TOO_MUCH);
            }
            step();
            for (int ear = 0; ear < EARS; ear++) {
                if (!isNumber(1, 40)) {
                    return false;
                }
                gorge.delay[wall * EARS + ear] = value;
                step();
            }
            if (!isNumber(0, 100)) {
                return false;
            }
            gorge.share[wall] = value;
            gorge.swallows[wall] = 0;
            gorge.again[wall] = 1;
            gorge.walls++;
            step();
            if (spells("swallows") && !readSwallows(wall)) {
                return false;
            }
            if (spells("again") && !readAgain(wall)) {
                return false;
            }
            return readEnd();
        }

        /** A fifth sort is told already or is none, so the bound cuts nothing off. */
        private boolean readSwallows(int wall) {
            step();
            for (int i = 0; i <= KINDS && (i == 0 || token == NUMBER); i++) {
                if (!isNumber(0, KINDS - 1)) {
                    return false;
                }
                if ((gorge.swallows[wall] >> value & 1) != 0) {
                    return fail(TWICE);
                }
                gorge.swallows[wall] |= 1 << value;
                step();
            }
            return true;
        }

        private boolean readAgain(int wall) {
            step();
            if (!isNumber(1, MOST_AGAIN)) {
                return false;
            }
            gorge.again[wall] = value;
            step();
            return true;
        }

        private boolean readStraight() {
            if (straightTold) {
                return fail(AGAIN_TOLD);
            }
            straightTold = true;
            step();
            for (int ear = 1; ear < EARS; ear++) {
                if (!isNumber(0, 40)) {
                    return false;
                }
                gorge.straight[ear] = value;
                step();
            }
            return readEnd();
        }

        private boolean readAir() {
            step();
            if (!isNumber(0, HOURS - 1)) {
                return false;
            }
            int hour = value;
            if ((airTold >> hour & 1) != 0) {
                return fail(AGAIN_TOLD);
            }
            airTold |= 1 << hour;
            step();
            if (!isNumber(0, 100)) {
                return false;
            }
            gorge.air[hour] = value;
            step();
            return readEnd();
        }

        private boolean readMask() {
            if (maskTold) {
                return fail(AGAIN_TOLD);
            }
            maskTold = true;
            step();
            if (!isNumber(1, 99)) {
                return false;
            }
            gorge.least = value;
            step();
            if (!isNumber(0, 9)) {
                return false;
            }
            gorge.window = value;
            step();
            if (!isNumber(0, 99)) {
                return false;
            }
            gorge.margin = value;
            step();
            return readEnd();
        }

        private boolean readSweet() {
            step();
            if (!isToldSound()) {
                return false;
            }
            int first = value;
            step();
            if (!isToldSound()) {
                return false;
            }
            int second = value;
            if (first == second) {
                return fail(TWICE);
            }
            gorge.sweet[first] |= 1 << second;
            gorge.sweet[second] |= 1 << first;
            step();
            return readEnd();
        }

        private boolean readWord() {
            int word = gorge.words;
            if (word >= MOST_WORDS) {
                return fail(TOO_MUCH);
            }
            step();
            if (!isNumber(0, KINDS - 1)) {
                return false;
            }
            gorge.kind[word] = value;
            gorge.length[word] = 0;
            gorge.words++;
            step();
            for (int i = 0; i <= WORD_SOUNDS && (i == 0 || token == NUMBER); i++) {
                if (i >= WORD_SOUNDS) {
                    return fail(TOO_MUCH);
                }
                if (!isToldSound()) {
                    return false;
                }
                gorge.spelling[word * WORD_SOUNDS + i] = value;
                gorge.length[word]++;
                step();
            }
            return readEnd();
        }

        private boolean readForm() {
            int form = gorge.forms;
            if (form >= MOST_FORMS) {
                return fail(TOO_MUCH);
            }
            gorge.formLength[form] = 0;
            gorge.forms++;
            step();
            for (int i = 0; i <= FORM_KINDS && (i == 0 || token == NUMBER); i++) {
                if (i >= FORM_KINDS) {
                    return fail(TOO_MUCH);
                }
                if (!isNumber(0, KINDS - 1)) {
                    return false;
                }
                gorge.formKind[form * FORM_KINDS + i] = value;
                gorge.formLength[form]++;
                step();
            }
            return readEnd();
        }
    }

    /** What is said, told, sung, and where the ears stand: what an image keeps. */
    private static final class Scene {
        /** Of each tick the sounds said then, as bits. */
        final int[] said = new int[SAID_TICKS];
        int saidMany;
        /** Behind toldMany all is nothing. */
        final int[] told = new int[TOLD_TICKS];
        int toldMany;
        /** Behind roundLength all is rest. */
        final int[] round = new int[ROUND_TICKS];
        int roundLength;
        final int[] earX = new int[EARS];
        final int[] earY = new int[EARS];

        Scene() {
            clear();
        }

        void clear() {
            clearSaid();
            clearTold();
            Arrays.fill(round, NONE);
            roundLength = 0;
            Arrays.fill(earX, 0);
            Arrays.fill(earY, 0);
        }

        void clearSaid() {
            Arrays.fill(said, 0);
            saidMany = 0;
        }

        void clearTold() {
            Arrays.fill(told, NONE);
            toldMany = 0;
        }

        boolean addSaid(int sound, int tick) {
            if (saidMany >= MOST_SAID || tick < 0 || tick >= SAID_TICKS) {
                return false;
            }
            if ((said[tick] >> sound & 1) != 0) {
                return false;
            }
            said[tick] |= 1 << sound;
            saidMany++;
            return true;
        }

        void copy(Scene from) {
            System.arraycopy(from.said, 0, said, 0, SAID_TICKS);
            saidMany = from.saidMany;
            System.arraycopy(from.told, 0, told, 0, TOLD_TICKS);
            toldMany = from.toldMany;
            System.arraycopy(from.round, 0, round, 0, ROUND_TICKS);
            roundLength = from.roundLength;
            System.arraycopy(from.earX, 0, earX, 0, EARS);
            System.arraycopy(from.earY, 0, earY, 0, EARS);
        }
    }

    /** All ways by which a sound comes to an ear: how much later, and how loud each sound is then. */
    private static final class Returns {
        private static final int MOST_WAYS = 1 + MOST_WALLS * MOST_AGAIN;

        /** Rising; ways that are as long are one. */
        final int[] later = new int[MOST_WAYS];
        /** Of each way the loudness of each sound. */
        final int[] loud = new int[MOST_WAYS * MOST_SOUNDS];
        int many;

        private final int[] fading = new int[MOST_SOUNDS];
        private boolean isBuilt;
        private int builtEar;
        private int builtAir;
        private int builtFog;
        private int builtGone;

        void forget() {
            isBuilt = false;
        }

        /** Of a gorge as it is, in a fog and without the wall gone (NONE: with all of them). */
        void build(Gorge gorge, int ear, int air, int fog, int gone) {
            boolean same = builtEar == ear && builtAir == air && builtFog == fog && builtGone == gone;
            if (isBuilt && same) {
                return;
            }
            isBuilt = true;
            builtEar = ear;
            builtAir = air;
            builtFog = fog;
            builtGone = gone;
            many = 0;
            int way = place(gorge.straight[ear]);
            System.arraycopy(gorge.loud, 0, loud, way * MOST_SOUNDS, gorge.sounds);
            for (int wall = 0; wall < gorge.walls; wall++) {
                if (wall != gone) {
                    addWall(gorge, wall);
                }
            }
        }

        private void addWall(Gorge gorge, int wall) {
            int share = gorge.foggedShare(wall, builtFog);
            int delay = gorge.delay[wall * EARS + builtEar];
            System.arraycopy(gorge.loud, 0, fading, 0, gorge.sounds);
            for (int n = 1; n <= gorge.again[wall]; n++) {
                int way = place(n * delay);
                for (int sound = 0; sound < gorge.sounds; sound++) {
                    fading[sound] = fading[sound] * share / 100;
                    if (!gorge.swallowsSound(wall, sound)) {
                        loud[way * MOST_SOUNDS + sound] += fading[sound] * builtAir / 100;
                    }
                }
            }
        }

        /** The way that is so long, made silent if there was none; no gorge has more than MOST_WAYS. */
        private int place(int ticks) {
            int at = many;
            while (at > 0 && later[at - 1] >= ticks) {
                at--;
            }
            if (at < many && later[at] == ticks) {
                return at;
            }
            for (int way = many; way > at; way--) {
                later[way] = later[way - 1];
                System.arraycopy(loud, (way - 1) * MOST_SOUNDS, loud, way * MOST_SOUNDS, MOST_SOUNDS);
            }
            later[at] = ticks;
            for (int sound = 0; sound < MOST_SOUNDS; sound++) {
                loud[at * MOST_SOUNDS + sound] = 0;
            }
            many++;
            return at;
        }

        int longest() {
            return many > 0 ? later[many - 1] : 0;
        }

        /** Whether all later returns of some sound, if they came together, would be as loud as that. */
        boolean canReach(int least) {
            for (int sound = 0; sound < MOST_SOUNDS; sound++) {
                int together = 0;
                for (int way = 0; way < many; way++) {
                    together += later[way] > 0 ? loud[way * MOST_SOUNDS + sound] : 0;
                }
                if (together >= least) {
                    return true;
                }
            }
            return false;
        }

        /** Straight at once, and a way for each of three walls that are alike but for their delays. */
        void prepareLike(Gorge gorge, int share, int air) {
            isBuilt = false;
            for (int sound = 0; sound < gorge.sounds; sound++) {
                loud[sound] = gorge.loud[sound];
                int thinner = gorge.loud[sound] * share / 100 * air / 100;
                for (int way = 1; way <= 3; way++) {
                    loud[way * MOST_SOUNDS + sound] = thinner;
                }
            }
            later[0] = 0;
            many = 1;
        }

        /** Delays rise, those that are 0 stand for no wall. */
        void layDelays(int low, int middle, int high) {
            many = 1;
            if (low > 0) {
                later[many++] = low;
            }
            if (middle > 0) {
                later[many++] = middle;
            }
            if (high > 0) {
                later[many++] = high;
            }
        }
    }

    /** Hears what is said, tick by tick in rising order. */
    private static final class Hearing {
        private final int[] best = new int[HEARD_TICKS];
        private final int[] whose = new int[HEARD_TICKS];
        private final int[] sum = new int[MOST_SOUNDS];
        private Gorge gorge;
        private Returns returns;
        private int[] said;
        private int last;
        private int low;
        private int high;

        /** Nothing is said behind the tick lastSaid (NONE: nothing at all); said has that tick. */
        void attend(Gorge inGorge, Returns by, int[] saidSounds, int lastSaid) {
            gorge = inGorge;
            returns = by;
            said = saidSounds;
            last = lastSaid;
            low = 0;
            high = 0;
        }

        /**
         * Finds the loudest at a tick. The ways low to high - 1 are those by which something said
         * from tick 0 to the last one can come just then, and both only rise with the ticks.
         */
        void measure(int tick) {
            while (high < returns.many && returns.later[high] <= tick) {
                high++;
            }
            while (low < high && returns.later[low] < tick - last) {
                low++;
            }
            int present = 0;
            for (int way = low; way < high; way++) {
                int saidThen = said[tick - returns.later[way]];
                present |= saidThen;
                for (int bits = saidThen; bits != 0; bits &= bits - 1) {
                    int sound = lowestBit(bits);
                    sum[sound] += returns.loud[way * MOST_SOUNDS + sound];
                }
            }
            int most = 0;
            int loudest = NONE;
            for (int bits = present; bits != 0; bits &= bits - 1) {
                int sound = lowestBit(bits);
                if (sum[sound] > most) {
                    most = sum[sound];
                    loudest = sound;
                }
                sum[sound] = 0;
            }
            best[tick] = most;
            whose[tick] = loudest;
        }

        /** The sound heard at a tick; it and the window ahead of it have been measured. */
        int hears(int tick) {
            int most = best[tick];
            if (most < gorge.least) {
                return NONE;
            }
            int from = Math.max(0, tick - gorge.window);
            for (int t = from; t < tick; t++) {
                if (best[t] > most + gorge.margin) {
                    return NONE;
                }
            }
            return whose[tick];
        }

        int loudness(int tick, int sound) {
            int together = 0;
            for (int way = 0; way < returns.many; way++) {
                int t = tick - returns.later[way];
                if (t >= 0 && t <= last && (said[t] >> sound & 1) != 0) {
                    together += returns.loud[way * MOST_SOUNDS + sound];
                }
            }
            return together;
        }
    }

    /** The lines of all forms, and which of them answer; hours of like air are surveyed once. */
    private static final class Verses {
        private static final int MOST_LINES = MOST_FORMS * MOST_WORDS * MOST_WORDS * MOST_WORDS;
        private static final int PACKS = MOST_LINES / 32;
        private static final int LONGEST = WORD_SOUNDS * FORM_KINDS;
        private static final int FIGURES = 6;
        private static final int ANSWER = 0;
        private static final int ECHOED = 1;
        private static final int PLAINEST_LENGTH = 2;
        private static final int SPOILT = 3;
        private static final int PLAINEST = 4;
        private static final int LASTS = 5;
        private static final int UNKNOWN = -2;

        /** Empty, as a new object's is, until the first text is adopted. */
        private Gorge gorge = new Gorge();
        int total;
        int beginnings;
        private int lengths;
        private int longest;
        private final int[] kindMany = new int[KINDS];
        private final int[] ofKind = new int[KINDS * MOST_WORDS];
        private final int[] formLines = new int[MOST_FORMS];
        private final int[] figures = new int[HOURS * FIGURES];
        private final int[] answers = new int[HOURS * PACKS];

        private final int[] row = new int[FORM_KINDS];
        private final int[] said = new int[LONGEST];
        private int length;
        private final int[] heard = new int[LONGEST];
        private int heardLength;
        private final int[] fits = new int[MOST_WORDS];

        Verses() {
            Arrays.fill(figures, UNKNOWN);
        }

        void adopt(Gorge newGorge) {
            gorge = newGorge;
            Arrays.fill(figures, UNKNOWN);
            Arrays.fill(kindMany, 0);
            for (int word = 0; word < gorge.words; word++) {
                int kind = gorge.kind[word];
                ofKind[kind * MOST_WORDS + kindMany[kind]] = word;
                kindMany[kind]++;
            }
            total = 0;
            beginnings = 0;
            lengths = 0;
            for (int form = 0; form < gorge.forms; form++) {
                measureForm(form);
            }
            longest = 0;
            for (int sounds = 1; sounds <= LONGEST; sounds++) {
                if ((lengths >> sounds & 1) != 0) {
                    longest = sounds;
                }
            }
        }

        private void measureForm(int form) {
            int many = 1;
            int reached = 1;
            for (int i = 0; i < gorge.formLength[form]; i++) {
                int kind = gorge.formKind[form * FORM_KINDS + i];
                many *= kindMany[kind];
                int further = 0;
                for (int k = 0; k < kindMany[kind]; k++) {
                    further |= reached << gorge.length[ofKind[kind * MOST_WORDS + k]];
                }
                reached = further;
            }
            formLines[form] = many;
            total += many;
            lengths |= reached;
            if (many > 0) {
                beginnings += kindMany[gorge.formKind[form * FORM_KINDS]];
            }
        }

        /** Makes the i-th line of a form the one in hand. */
        private void spell(int form, int i) {
            int rest = i;
            int many = gorge.formLength[form];
            for (int k = many - 1; k >= 0; k--) {
                int kind = gorge.formKind[form * FORM_KINDS + k];
                int choices = Math.max(1, kindMany[kind]);
                row[k] = ofKind[kind * MOST_WORDS + rest % choices];
                rest /= choices;
            }
            length = 0;
            for (int k = 0; k < many; k++) {
                int word = row[k];
                for (int s = 0; s < gorge.length[word]; s++) {
                    said[length] = 1 << gorge.spelling[word * WORD_SOUNDS + s];
                    length++;
                }
            }
        }

        /** Hears the return of the line in hand; false: it is longer than every line. */
        private boolean listen(Hearing hearing, Returns returns) {
            heardLength = 0;
            hearing.attend(gorge, returns, said, length - 1);
            int end = length - 1 + returns.longest();
            for (int tick = 0; tick <= end; tick++) {
                hearing.measure(tick);
                int sound = tick < length ? NONE : hearing.hears(tick);
                if (sound == NONE) {
                    continue;
                }
                if (heardLength >= longest) {
                    return false;
                }
                heard[heardLength] = sound;
                heardLength++;
            }
            return true;
        }

        /** Whether what was heard is the sounds of some line: words are laid on it, form by form. */
        private boolean isLine() {
            if ((lengths >> heardLength & 1) == 0) {
                return false;
            }
            for (int word = 0; word < gorge.words; word++) {
                fits[word] = fittingPlaces(word);
            }
            for (int form = 0; form < gorge.forms; form++) {
                int reached = 1;
                for (int i = 0; i < gorge.formLength[form] && reached != 0; i++) {
                    reached = layKind(gorge.formKind[form * FORM_KINDS + i], reached);
                }
                if ((reached >> heardLength & 1) != 0) {
                    return true;
                }
            }
            return false;
        }

        private int layKind(int kind, int reached) {
            int further = 0;
            for (int k = 0; k < kindMany[kind]; k++) {
                int word = ofKind[kind * MOST_WORDS + k];
                further |= (reached & fits[word]) << gorge.length[word];
            }
            return further;
        }

        private int fittingPlaces(int word) {
            int places = 0;
            for (int at = 0; at + gorge.length[word] <= heardLength; at++) {
                if (fitsAt(word, at)) {
                    places |= 1 << at;
                }
            }
            return places;
        }

        private boolean fitsAt(int word, int at) {
            for (int s = 0; s < gorge.length[word]; s++) {
                if (heard[at + s] != gorge.spelling[word * WORD_SOUNDS + s]) {
                    return false;
                }
            }
            return true;
        }

        private boolean isEchoed(int form) {
            int lastWord = row[Math.max(0, gorge.formLength[form] - 1)];
            return gorge.length[lastWord] == heardLength && fitsAt(lastWord, 0);
        }

        /** Surveys an hour's lines once; answers the least hour of like air, which keeps the figures. */
        int survey(int hour, Hearing hearing, Returns returns) {
            int like = 0;
            while (like < hour && gorge.air[like] != gorge.air[hour]) {
                like++;
            }
            int at = like * FIGURES;
            if (figures[at + ANSWER] != UNKNOWN) {
                return like;
            }
            returns.build(gorge, 0, gorge.air[like], 0, NONE);
            figures[at + ANSWER] = 0;
            figures[at + ECHOED] = 0;
            figures[at + PLAINEST_LENGTH] = NONE;
            figures[at + SPOILT] = 0;
            figures[at + PLAINEST] = NONE;
            for (int pack = 0; pack < PACKS; pack++) {
                answers[like * PACKS + pack] = 0;
            }
            int before = 0;
            for (int form = 0; form < gorge.forms; form++) {
                surveyForm(like, form, before, hearing, returns);
                before += formLines[form];
            }
            return like;
        }

        /** Lines of one beginning stand next to each other, as many as the other kinds allow. */
        private void surveyForm(int like, int form, int before, Hearing hearing, Returns returns) {
            int firstWords = Math.max(1, kindMany[gorge.formKind[form * FORM_KINDS]]);
            int ofBeginning = formLines[form] / firstWords;
            int i = 0;
            for (int first = 0; first < firstWords; first++) {
                int found = 0;
                for (int k = 0; k < ofBeginning; k++) {
                    spell(form, i);
                    if (listen(hearing, returns)) {
                        found += weigh(like, form, before + i);
                    }
                    i++;
                }
                if (found == 0 && ofBeginning > 0) {
                    figures[like * FIGURES + SPOILT]++;
                }
            }
        }

        /** Notes the line in hand, whose return has been heard: 1 if it answers, else 0. */
        private int weigh(int like, int form, int number) {
            int at = like * FIGURES;
            if (isEchoed(form)) {
                figures[at + ECHOED]++;
            }
            if (!isLine()) {
                return 0;
            }
            figures[at + ANSWER]++;
            answers[like * PACKS + number / 32] |= 1 << number % 32;
            if (figures[at + PLAINEST] == NONE || length < figures[at + PLAINEST_LENGTH]) {
                figures[at + PLAINEST] = number;
                figures[at + PLAINEST_LENGTH] = length;
            }
            return 1;
        }

        /** A figure of a surveyed hour, as lines() numbers them. */
        int figure(int like, int what) {
            return figures[like * FIGURES + what];
        }

        private boolean answersNow(int like, int number) {
            return (answers[like * PACKS + number / 32] >> number % 32 & 1) != 0;
        }

        /** The number of the i-th line that answers (NONE: the plainest), NONE if there is none. */
        int answering(int like, int i) {
            if (i == NONE) {
                return figures[like * FIGURES + PLAINEST];
            }
            if (i < 0 || i >= figures[like * FIGURES + ANSWER]) {
                return NONE;
            }
            int left = i;
            for (int number = 0; number < total; number++) {
                if (answersNow(like, number)) {
                    if (left == 0) {
                        return number;
                    }
                    left--;
                }
            }
            return NONE;
        }

        /** The form (what 0) or a word (1 to 3; NONE: it has fewer) of a line. */
        int partOf(int number, int what) {
            int form = 0;
            int i = number;
            while (form + 1 < gorge.forms && i >= formLines[form]) {
                i -= formLines[form];
                form++;
            }
            if (what == 0) {
                return form;
            }
            if (what > gorge.formLength[form]) {
                return NONE;
            }
            spell(form, i);
            return row[what - 1];
        }

        /** How many (counted up to enough) that answer in a surveyed hour do so by the returns given. */
        int countStill(int like, Hearing hearing, Returns returns, int enough) {
            int found = 0;
            int number = 0;
            for (int form = 0; form < gorge.forms; form++) {
                for (int i = 0; i < formLines[form] && found < enough; i++) {
                    if (answersNow(like, number + i)) {
                        spell(form, i);
                        found += listen(hearing, returns) && isLine() ? 1 : 0;
                    }
                }
                number += formLines[form];
            }
            return found;
        }

        /** The greatest fog in which some line that answers now does so; NONE: none answers now. */
        int thickestFog(int like, Hearing hearing, Returns returns) {
            int at = like * FIGURES;
            if (figures[at + ANSWER] == 0) {
                return NONE;
            }
            if (figures[at + LASTS] == UNKNOWN) {
                figures[at + LASTS] = searchFog(like, hearing, returns);
            }
            return figures[at + LASTS];
        }

        /** In a fog of 100 nothing returns, so no line answers in it. */
        private int searchFog(int like, Hearing hearing, Returns returns) {
            for (int fog = 99; fog > 0; fog--) {
                if (changesShares(fog)) {
                    returns.build(gorge, 0, gorge.air[like], fog, NONE);
                    if (returns.canReach(gorge.least) && countStill(like, hearing, returns, 1) > 0) {
                        return fog;
                    }
                }
            }
            return 0;
        }

        /** Whether the walls return otherwise in a fog than in the next thicker one. */
        private boolean changesShares(int fog) {
            for (int wall = 0; wall < gorge.walls; wall++) {
                if (gorge.foggedShare(wall, fog) != gorge.foggedShare(wall, fog + 1)) {
                    return true;
                }
            }
            return false;
        }
    }

    /** A round, sung over and over with its own returns. */
    private static final class Chant {
        private final int[] sum = new int[MOST_SOUNDS];

        /** How many ticks clash, if the row has so many ticks. */
        int clashes(Gorge gorge, Returns returns, Scene scene, int length) {
            int many = 0;
            for (int tick = 0; tick < length; tick++) {
                if (isClash(gorge, listen(gorge, returns, scene, length, tick))) {
                    many++;
                }
            }
            return many;
        }

        int rests(Gorge gorge, Returns returns, Scene scene) {
            for (int more = 0; more <= ROUND_TICKS; more++) {
                if (clashes(gorge, returns, scene, scene.roundLength + more) == 0) {
                    return more;
                }
            }
            return NONE;
        }

        /** The sounds at a tick that are loud enough to be heard, as bits; length is above 0. */
        private int listen(Gorge gorge, Returns returns, Scene scene, int length, int tick) {
            Arrays.fill(sum, 0);
            for (int way = 0; way < returns.many && length > 0; way++) {
                int t = Math.floorMod(tick - returns.later[way], length);
                int sound = t < scene.roundLength ? scene.round[t] : NONE;
                if (sound != NONE) {
                    sum[sound] += returns.loud[way * MOST_SOUNDS + sound];
                }
            }
            int audible = 0;
            for (int sound = 0; sound < gorge.sounds; sound++) {
                if (sum[sound] >= gorge.least) {
                    audible |= 1 << sound;
                }
            }
            return audible;
        }

        private static boolean isClash(Gorge gorge, int audible) {
            for (int bits = audible; bits != 0; bits &= bits - 1) {
                int sound = lowestBit(bits);
                if ((audible & ~gorge.sweet[sound] & ~(1 << sound)) != 0) {
                    return true;
                }
            }
            return false;
        }
    }

    /** The sets of walls by which what is said would be heard as told. */
    private static final class Guess {
        private static final int LONGEST_DELAY = 20;

        /** How many, surely, possibly, the first, the next sound to clap, its greatest group. */
        final int[] answer = new int[6];
        private final Returns returns = new Returns();
        private boolean isKnown;
        private int knownShare;
        private int firstWalls;
        private int muffled;
        private int muffledRun;
        private int muffledKey;

        void forget() {
            isKnown = false;
        }

        void find(Gorge gorge, Scene scene, Hearing hearing, int share) {
            if (isKnown && knownShare == share) {
                return;
            }
            isKnown = true;
            knownShare = share;
            answer[0] = 0;
            answer[1] = -1;
            answer[2] = 0;
            answer[3] = NONE;
            muffled = 0;
            returns.prepareLike(gorge, share, gorge.air[NOON]);
            searchAll(gorge, scene, hearing);
            if (answer[0] == 0) {
                answer[1] = 0;
            }
            findNext(gorge);
        }

        /**
         * Goes through the sets as rising bits, a delay 0 standing for no wall. A wall whose delay
         * is behind the tick that was missed without it can't mend that.
         */
        private void searchAll(Gorge gorge, Scene scene, Hearing hearing) {
            for (int high = 0; high <= LONGEST_DELAY; high++) {
                for (int middle = 0; middle < Math.max(1, high); middle++) {
                    int missed = TOLD_TICKS;
                    for (int low = 0; low < Math.max(1, middle) && low <= missed; low++) {
                        returns.layDelays(low, middle, high);
                        int miss = firstMiss(gorge, scene, hearing);
                        if (miss == TOLD_TICKS) {
                            take(1 << high >> 1 | 1 << middle >> 1 | 1 << low >> 1, gorge.window);
                        }
                        if (low == 0) {
                            missed = miss;
                        }
                    }
                }
            }
        }

        private int firstMiss(Gorge gorge, Scene scene, Hearing hearing) {
            hearing.attend(gorge, returns, scene.said, SAID_TICKS - 1);
            for (int tick = 0; tick < TOLD_TICKS; tick++) {
                hearing.measure(tick);
                if (hearing.hears(tick) != scene.told[tick]) {
                    return tick;
                }
            }
            return TOLD_TICKS;
        }

        /** Rivals that differ in delays within the window alone come one behind the other. */
        private void take(int bits, int window) {
            int walls = Integer.bitCount(bits);
            if (answer[0] == 0 || walls < firstWalls) {
                answer[3] = bits;
                firstWalls = walls;
            }
            int key = bits >> window;
            muffledRun = answer[0] > 0 && key == muffledKey ? muffledRun + 1 : 1;
            muffledKey = key;
            muffled = Math.max(muffled, muffledRun);
            answer[0]++;
            answer[1] &= bits;
            answer[2] |= bits;
        }

        private void findNext(Gorge gorge) {
            answer[4] = NONE;
            answer[5] = 0;
            if (answer[0] == 0) {
                return;
            }
            for (int sound = 0; sound < gorge.sounds; sound++) {
                int group = greatestGroup(gorge, sound);
                if (answer[4] == NONE || group < answer[5]) {
                    answer[4] = sound;
                    answer[5] = group;
                }
            }
        }

        /**
         * Of a sound said alone all returns are as loud as each other, so nothing but the sound
         * itself can mask them, and only within the window.
         */
        private int greatestGroup(Gorge gorge, int sound) {
            int thinner = returns.loud[MOST_SOUNDS + sound];
            if (thinner < gorge.least) {
                return answer[0];
            }
            return gorge.loud[sound] > thinner + gorge.margin ? muffled : 1;
        }
    }

    /** Which of the sounds told were said truly, the others being returns. */
    private static final class Truth {
        private static final int MOST_SPOTS = 14;

        /** How many sets, the fewest said, the least bits of so few. */
        final int[] answer = new int[3];
        private boolean isKnown;
        private final int[] said = new int[TOLD_TICKS];
        private final int[] spots = new int[MOST_SPOTS];
        private int many;
        private Gorge gorge;
        private Scene scene;
        private Hearing hearing;
        private Returns returns;

        void forget() {
            isKnown = false;
        }

        void find(Gorge inGorge, Scene ofScene, Hearing by, Returns ways) {
            if (isKnown) {
                return;
            }
            isKnown = true;
            gorge = inGorge;
            scene = ofScene;
            hearing = by;
            returns = ways;
            answer[0] = 0;
            answer[1] = NONE;
            answer[2] = NONE;
            Arrays.fill(said, 0);
            many = 0;
            for (int tick = 0; tick < TOLD_TICKS && many < MOST_SPOTS; tick++) {
                if (scene.told[tick] != NONE) {
                    spots[many] = tick;
                    many++;
                }
            }
            if (isHeardAsTold(0, many > 0 ? spots[0] : TOLD_TICKS, NONE)) {
                search(0, 0, NONE);
            }
        }

        /** The sounds up to the spot are settled and fit; lastSaid is the latest tick said. */
        private void search(int spot, int bits, int lastSaid) {
            if (spot >= many) {
                take(bits);
                return;
            }
            int from = spots[spot];
            int to = spot + 1 < many ? spots[spot + 1] : TOLD_TICKS;
            said[from] = 0;
            if (isHeardAsTold(from, to, lastSaid)) {
                search(spot + 1, bits, lastSaid);
            }
            said[from] = 1 << Math.max(0, scene.told[from]);
            if (isHeardAsTold(from, to, from)) {
                search(spot + 1, bits | 1 << spot, from);
            }
        }

        private boolean isHeardAsTold(int from, int to, int lastSaid) {
            hearing.attend(gorge, returns, said, lastSaid);
            for (int tick = from; tick < to; tick++) {
                hearing.measure(tick);
                if (hearing.hears(tick) != scene.told[tick]) {
                    return false;
                }
            }
            return true;
        }

        private void take(int bits) {
            int fewer = Integer.bitCount(bits);
            if (answer[0] == 0 || fewer < answer[1] || fewer == answer[1] && bits < answer[2]) {
                answer[1] = fewer;
                answer[2] = bits;
            }
            answer[0]++;
        }
    }

    /** Where a clap may have been, by how much later it came to two ears. */
    private static final class Places {
        /** How many ticks a clap takes, by how far it is in y and in x. */
        private final int[] ticks = new int[SIDE * SIDE];
        /** Of each row and x how many places that match stand ahead of x. */
        private final int[] ahead = new int[SIDE * (SIDE + 1)];

        Places() {
            for (int y = 0; y < SIDE; y++) {
                int root = y;
                for (int x = 0; x < SIDE; x++) {
                    if ((root + 1) * (root + 1) <= x * x + y * y) {
                        root++;
                    }
                    ticks[y * SIDE + x] = root;
                }
            }
        }

        private int ticksTo(Scene scene, int ear, int x, int y) {
            return ticks[Math.abs(y - scene.earY[ear]) * SIDE + Math.abs(x - scene.earX[ear])];
        }

        private boolean matches(Scene scene, int a, int b, int x, int y) {
            int first = ticksTo(scene, 0, x, y);
            return ticksTo(scene, 1, x, y) - first == a && ticksTo(scene, 2, x, y) - first == b;
        }

        int countMatching(Scene scene, int a, int b) {
            int many = 0;
            for (int place = 0; place < SIDE * SIDE; place++) {
                if (matches(scene, a, b, place % SIDE, place / SIDE)) {
                    many++;
                }
            }
            return many;
        }

        /** The i-th place that matches, NONE if there is none. */
        int findMatching(Scene scene, int a, int b, int i) {
            if (i < 0) {
                return NONE;
            }
            int left = i;
            for (int place = 0; place < SIDE * SIDE; place++) {
                if (matches(scene, a, b, place % SIDE, place / SIDE)) {
                    if (left == 0) {
                        return place;
                    }
                    left--;
                }
            }
            return NONE;
        }

        void chart(Scene scene, int a, int b) {
            for (int y = 0; y < SIDE; y++) {
                int many = 0;
                for (int x = 0; x < SIDE; x++) {
                    ahead[y * (SIDE + 1) + x] = many;
                    if (matches(scene, a, b, x, y)) {
                        many++;
                    }
                }
                ahead[y * (SIDE + 1) + SIDE] = many;
            }
        }

        int countCouples(Scene scene, int a, int b, int steps) {
            int many = 0;
            for (int y = 0; y < SIDE; y++) {
                for (int x = 0; x < SIDE; x++) {
                    if (matches(scene, a, b, x, y)) {
                        many += chartedNear(x, y, steps);
                    }
                }
            }
            return many;
        }

        private int chartedNear(int x, int y, int steps) {
            int many = 0;
            int to = Math.min(SIDE - 1, y + steps);
            for (int row = Math.max(0, y - steps); row <= to; row++) {
                int reach = steps - Math.abs(y - row);
                int left = Math.max(0, x - reach);
                int right = Math.min(SIDE - 1, x + reach);
                many += ahead[row * (SIDE + 1) + right + 1] - ahead[row * (SIDE + 1) + left];
            }
            return many;
        }
    }

    /** A sound clapped twice: which gaps can be told from each other whatever returns. */
    private static final class Claps {
        /** Of each gap those that fall together with it, as bits. */
        final int[] together = new int[GAPS];
        private final int[] said = new int[FIRST_GAP + GAPS];
        private int best;
        private int bestMany;
        private int bestSum;

        void compare(Gorge gorge, Hearing hearing, Returns returns, int sound) {
            Arrays.fill(together, 0);
            Arrays.fill(said, 0);
            said[0] = 1 << sound;
            for (int gap = 0; gap < GAPS; gap++) {
                int tick = gap + FIRST_GAP;
                said[tick] = 1 << sound;
                hearing.attend(gorge, returns, said, tick);
                int others = heardGaps(hearing) & ~(1 << gap);
                said[tick] = 0;
                together[gap] |= others;
                for (int other = 0; other < GAPS; other++) {
                    together[other] |= (others >> other & 1) << gap;
                }
            }
        }

        private int heardGaps(Hearing hearing) {
            int bits = 0;
            for (int tick = 0; tick < FIRST_GAP + GAPS; tick++) {
                hearing.measure(tick);
                if (tick >= FIRST_GAP && hearing.hears(tick) != NONE) {
                    bits |= 1 << tick - FIRST_GAP;
                }
            }
            return bits;
        }

        /** The code, as bits. */
        int choose() {
            best = 0;
            bestMany = 0;
            bestSum = 0;
            extend((1 << GAPS) - 1, 0);
            return best;
        }

        /** Settles the least gap left, so it goes at most as deep as there are gaps. */
        private void extend(int left, int taken) {
            if (Integer.bitCount(taken) + Integer.bitCount(left) < bestMany) {
                return;
            }
            if (left == 0) {
                weigh(taken);
                return;
            }
            int gap = lowestBit(left);
            int others = left & left - 1;
            extend(others & ~together[gap], taken | 1 << gap);
            if ((others & together[gap]) != 0) {
                extend(others, taken);
            }
        }

        private void weigh(int taken) {
            int many = Integer.bitCount(taken);
            int sum = 0;
            for (int bits = taken; bits != 0; bits &= bits - 1) {
                sum += lowestBit(bits) + FIRST_GAP;
            }
            boolean like = many == bestMany;
            if (many > bestMany || like && (sum < bestSum || sum == bestSum && taken < best)) {
                best = taken;
                bestMany = many;
                bestSum = sum;
            }
        }
    }
}
