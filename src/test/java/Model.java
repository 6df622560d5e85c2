import java.util.ArrayList;
import java.util.Arrays;
import java.util.HashMap;
import java.util.HashSet;
import java.util.LinkedHashMap;
import java.util.List;
import java.util.Map;
import java.util.NoSuchElementException;
import java.util.Set;
import java.util.TreeMap;
import java.util.TreeSet;

/** The document once more, word by word and without a thought for speed, to hold the class against. */
final class Model {
    static final int NONE = -1;

    record Sound(int loud, int sort) { }

    record Wall(int[] delays, int share, Set<Integer> swallows, int again) { }

    record Word(int kind, List<Integer> sounds) { }

    record Saying(int sound, int tick) { }

    record Line(int form, List<Integer> words, List<Integer> sounds) { }

    static final class Told {
        final List<Sound> sounds = new ArrayList<>();
        final List<Wall> walls = new ArrayList<>();
        final int[] straight = new int[3];
        final Map<Integer, Integer> air = new HashMap<>();
        int least = 1;
        int window = 0;
        int margin = 0;
        final Set<Set<Integer>> sweet = new HashSet<>();
        final List<Word> words = new ArrayList<>();
        final List<List<Integer>> forms = new ArrayList<>();
        boolean straightTold = false;
        boolean maskTold = false;

        int airOf(int hour) {
            return air.getOrDefault(hour, 100);
        }
    }

    @SuppressWarnings("serial")
    static final class Fault extends Exception {
        final int kind;
        final int place;

        Fault(int kind, int place) {
            this.kind = kind;
            this.place = place;
        }
    }

    private StringBuilder tape = new StringBuilder();
    private int faultPlace = NONE;
    private final int[] status = new int[3];
    private Told g = new Told();
    private List<Saying> said = new ArrayList<>();
    private List<Integer> told = new ArrayList<>();
    private TreeMap<Integer, Integer> round = new TreeMap<>();
    private int[] ears = new int[6];
    private Object[] image = null;

    // ---- the text

    int feed(int... numbers) {
        if (tape.length() + 20 > 700) {
            return NONE;
        }
        for (int number : numbers) {
            for (int shift = 24; shift >= 0; shift -= 8) {
                tape.append((char) (number >>> shift & 255));
            }
        }
        return tape.length();
    }

    int gorge(int n) {
        if (n < 0 || n > tape.length()) {
            throw new IllegalArgumentException();
        }
        String text = tape.substring(0, n);
        tape = new StringBuilder();
        try {
            g = new Grammar(text).gorge();
        } catch (Fault fault) {
            status[0]++;
            faultPlace = fault.place;
            return fault.kind;
        }
        faultPlace = NONE;
        said = new ArrayList<>();
        told = new ArrayList<>();
        round = new TreeMap<>();
        ears = new int[6];
        image = null;
        return 0;
    }

    /** Cuts the text into tokens first, then reads line by line. */
    static final class Grammar {
        private final List<String> tokens = new ArrayList<>();
        private final List<Integer> starts = new ArrayList<>();
        private int at = 0;
        private final Told g = new Told();

        Grammar(String text) {
            int i = 0;
            while (i < text.length()) {
                int from = i;
                char c = text.charAt(i);
                if (c == ' ' || c == '\n') {
                    i++;
                    continue;
                }
                String class0 = c >= 'a' && c <= 'z' ? "abcdefghijklmnopqrstuvwxyz" : c >= '0' && c <= '9' ? "0123456789" : "";
                i++;
                while (i < text.length() && class0.indexOf(text.charAt(i)) >= 0) {
                    i++;
                }
                tokens.add(text.substring(from, i));
                starts.add(from);
            }
            tokens.add("");
            starts.add(text.length());
        }

        private Fault fault(int kind) {
            return new Fault(kind, starts.get(at));
        }

        private boolean isNumber() {
            return tokens.get(at).matches("[0-9]+");
        }

        private int number(int from, int to) throws Fault {
            if (!isNumber()) {
                throw fault(1);
            }
            String digits = tokens.get(at);
            if (digits.length() > 4 || Integer.parseInt(digits) < from || Integer.parseInt(digits) > to) {
                throw fault(2);
            }
            return Integer.parseInt(digits);
        }

        private int take(int from, int to) throws Fault {
            int taken = number(from, to);
            at++;
            return taken;
        }

        private int sound() throws Fault {
            int sound = number(0, 9999);
            if (sound >= g.sounds.size()) {
                throw fault(3);
            }
            return sound;
        }

        private List<Integer> row(int most, boolean ofSounds) throws Fault {
            List<Integer> row = new ArrayList<>();
            do {
                if (row.size() == most && isNumber()) {
                    throw fault(2);
                }
                row.add(ofSounds ? sound() : number(0, 3));
                at++;
            } while (isNumber());
            return row;
        }

        Told gorge() throws Fault {
            while (!tokens.get(at).isEmpty()) {
                line();
                if (!tokens.get(at).equals(";")) {
                    throw fault(1);
                }
                at++;
            }
            return g;
        }

        private void tooMany(List<?> list, int most) throws Fault {
            if (list.size() == most) {
                throw fault(2);
            }
            at++;
        }

        private void line() throws Fault {
            switch (tokens.get(at)) {
                case "sound" -> {
                    tooMany(g.sounds, 8);
                    int loud = take(1, 99);
                    g.sounds.add(new Sound(loud, take(0, 3)));
                }
                case "wall" -> {
                    tooMany(g.walls, 6);
                    wall();
                }
                case "straight" -> {
                    if (g.straightTold) {
                        throw fault(5);
                    }
                    at++;
                    g.straightTold = true;
                    g.straight[1] = take(0, 40);
                    g.straight[2] = take(0, 40);
                }
                case "air" -> {
                    at++;
                    int hour = number(0, 23);
                    if (g.air.containsKey(hour)) {
                        throw fault(5);
                    }
                    at++;
                    g.air.put(hour, take(0, 100));
                }
                case "mask" -> {
                    if (g.maskTold) {
                        throw fault(5);
                    }
                    at++;
                    g.maskTold = true;
                    g.least = take(1, 99);
                    g.window = take(0, 9);
                    g.margin = take(0, 99);
                }
                case "sweet" -> {
                    at++;
                    int one = sound();
                    at++;
                    int other = sound();
                    if (one == other) {
                        throw fault(4);
                    }
                    at++;
                    g.sweet.add(Set.of(one, other));
                }
                case "word" -> {
                    tooMany(g.words, 8);
                    int kind = take(0, 3);
                    g.words.add(new Word(kind, row(4, true)));
                }
                case "form" -> {
                    tooMany(g.forms, 6);
                    g.forms.add(row(3, false));
                }
                default -> throw fault(1);
            }
        }

        private void wall() throws Fault {
            int[] delays = {take(1, 40), take(1, 40), take(1, 40)};
            int share = take(0, 100);
            Set<Integer> sorts = new TreeSet<>();
            if (tokens.get(at).equals("swallows")) {
                at++;
                do {
                    if (!sorts.add(number(0, 3))) {
                        throw fault(4);
                    }
                    at++;
                } while (isNumber());
            }
            int again = 1;
            if (tokens.get(at).equals("again")) {
                at++;
                again = take(1, 3);
            }
            g.walls.add(new Wall(delays, share, sorts, again));
        }
    }

    int fault() {
        return faultPlace;
    }

    int count(int what) {
        return switch (what) {
            case 0 -> g.sounds.size();
            case 1 -> g.walls.size();
            case 2 -> g.words.size();
            case 3 -> g.forms.size();
            case 4 -> said.size();
            case 5 -> told.size();
            case 6 -> tape.length();
            case 7, 8, 9 -> status[what - 7];
            case 10 -> allLines().size();
            default -> throw new NoSuchElementException();
        };
    }

    int wall(int wall, int what) {
        needIn(wall, g.walls.size());
        needIn(what, 6);
        Wall w = g.walls.get(wall);
        if (what < 3) {
            return w.delays[what];
        }
        return what == 3 ? w.share : what == 4 ? bits(w.swallows) : w.again;
    }

    int word(int word, int what) {
        needIn(word, g.words.size());
        Word w = g.words.get(word);
        needIn(what, 2 + w.sounds.size());
        return what == 0 ? w.kind : what == 1 ? w.sounds.size() : w.sounds.get(what - 2);
    }

    private static void needIn(int i, int size) {
        if (i < 0 || i >= size) {
            throw new NoSuchElementException();
        }
    }

    private static int bits(Iterable<Integer> numbers) {
        int bits = 0;
        for (int number : numbers) {
            bits |= 1 << number;
        }
        return bits;
    }

    // ---- what is said and heard

    int say(int sound, int tick) {
        needIn(sound, g.sounds.size());
        if (said.size() == 200 || said.contains(new Saying(sound, tick)) || tick < 0 || tick > 199) {
            status[1]++;
            return NONE;
        }
        said.add(new Saying(sound, tick));
        return said.size();
    }

    int hush() {
        int many = said.size();
        said = new ArrayList<>();
        return many;
    }

    /** Of each tick and sound its loudness. */
    private int[][] table(List<Saying> sayings, List<Wall> walls, int ear, int hour) {
        int[][] table = new int[400][g.sounds.size()];
        for (Saying saying : sayings) {
            Sound sound = g.sounds.get(saying.sound);
            table[saying.tick + g.straight[ear]][saying.sound] += sound.loud;
            for (Wall wall : walls) {
                if (wall.swallows.contains(sound.sort)) {
                    continue;
                }
                for (int n = 1; n <= wall.again; n++) {
                    int loud = sound.loud;
                    for (int k = 0; k < n; k++) {
                        loud = loud * wall.share / 100;
                    }
                    table[saying.tick + n * wall.delays[ear]][saying.sound] += loud * g.airOf(hour) / 100;
                }
            }
        }
        return table;
    }

    private int heardIn(int[][] table, int tick) {
        int best = NONE;
        for (int sound = 0; sound < g.sounds.size(); sound++) {
            if (best == NONE || table[tick][sound] > table[tick][best]) {
                best = sound;
            }
        }
        if (best == NONE || table[tick][best] < g.least) {
            return NONE;
        }
        for (int ahead = 1; ahead <= g.window && ahead <= tick; ahead++) {
            for (int loud : table[tick - ahead]) {
                if (loud - table[tick][best] > g.margin) {
                    return NONE;
                }
            }
        }
        return best;
    }

    private List<Integer> heardRow(List<Saying> sayings, List<Wall> walls, int hour, int from, int to) {
        int[][] table = table(sayings, walls, 0, hour);
        List<Integer> row = new ArrayList<>();
        for (int tick = from; tick < to; tick++) {
            row.add(heardIn(table, tick));
        }
        return row;
    }

    int heard(int ear, int hour, int tick) {
        needIn(ear, 3);
        needIn(hour, 24);
        needIn(tick, 400);
        return heardIn(table(said, g.walls, ear, hour), tick);
    }

    int loud(int ear, int hour, int tick, int sound) {
        needIn(ear, 3);
        needIn(hour, 24);
        needIn(tick, 400);
        needIn(sound, g.sounds.size());
        return table(said, g.walls, ear, hour)[tick][sound];
    }

    // ---- lines

    private List<Line> allLines() {
        List<Line> lines = new ArrayList<>();
        for (int form = 0; form < g.forms.size(); form++) {
            spell(form, new ArrayList<>(), lines);
        }
        return lines;
    }

    private void spell(int form, List<Integer> words, List<Line> lines) {
        if (words.size() == g.forms.get(form).size()) {
            List<Integer> sounds = new ArrayList<>();
            for (int word : words) {
                sounds.addAll(g.words.get(word).sounds);
            }
            lines.add(new Line(form, new ArrayList<>(words), sounds));
            return;
        }
        for (int word = 0; word < g.words.size(); word++) {
            if (g.words.get(word).kind == g.forms.get(form).get(words.size())) {
                words.add(word);
                spell(form, words, lines);
                words.remove(words.size() - 1);
            }
        }
    }

    private List<Integer> returnOf(Line line, List<Wall> walls, int hour) {
        List<Saying> sayings = new ArrayList<>();
        for (int sound : line.sounds) {
            sayings.add(new Saying(sound, sayings.size()));
        }
        List<Integer> heard = heardRow(sayings, walls, hour, sayings.size(), 400);
        heard.removeIf(sound -> sound == NONE);
        return heard;
    }

    private List<Line> answering(List<Line> of, List<Wall> walls, int hour) {
        Set<List<Integer>> known = new HashSet<>();
        for (Line line : allLines()) {
            known.add(line.sounds);
        }
        List<Line> answers = new ArrayList<>();
        for (Line line : of) {
            if (known.contains(returnOf(line, walls, hour))) {
                answers.add(line);
            }
        }
        return answers;
    }

    private static Line plainest(List<Line> lines) {
        Line best = null;
        for (Line line : lines) {
            if (best == null || line.sounds.size() < best.sounds.size()) {
                best = line;
            }
        }
        return best;
    }

    private static Set<List<Integer>> beginnings(List<Line> lines) {
        Set<List<Integer>> beginnings = new HashSet<>();
        for (Line line : lines) {
            beginnings.add(List.of(line.form, line.words.get(0)));
        }
        return beginnings;
    }

    int lines(int hour, int what) {
        needIn(hour, 24);
        needIn(what, 5);
        List<Line> all = allLines();
        List<Line> answers = answering(all, g.walls, hour);
        switch (what) {
            case 0:
                return answers.size();
            case 1:
                int echoed = 0;
                for (Line line : all) {
                    int last = line.words.get(line.words.size() - 1);
                    echoed += returnOf(line, g.walls, hour).equals(g.words.get(last).sounds) ? 1 : 0;
                }
                return echoed;
            case 2:
                return answers.isEmpty() ? NONE : plainest(answers).sounds.size();
            case 3:
                return beginnings(all).size() - beginnings(answers).size();
            default:
                return beginnings(all).size();
        }
    }

    int line(int hour, int i, int what) {
        needIn(hour, 24);
        needIn(what, 4);
        List<Line> answers = answering(allLines(), g.walls, hour);
        if (i != NONE || answers.isEmpty()) {
            needIn(i, answers.size());
        }
        Line line = i == NONE ? plainest(answers) : answers.get(i);
        return what == 0 ? line.form : what > line.words.size() ? NONE : line.words.get(what - 1);
    }

    private List<Wall> fogged(int fog) {
        List<Wall> walls = new ArrayList<>();
        for (Wall wall : g.walls) {
            walls.add(new Wall(wall.delays, wall.share * (100 - fog) / 100, wall.swallows, wall.again));
        }
        return walls;
    }

    int still(int hour, int fog) {
        needIn(hour, 24);
        if (fog < 0 || fog > 100) {
            throw new IllegalArgumentException();
        }
        return answering(answering(allLines(), g.walls, hour), fogged(fog), hour).size();
    }

    int without(int hour, int wall) {
        needIn(hour, 24);
        needIn(wall, g.walls.size());
        List<Wall> walls = new ArrayList<>(g.walls);
        walls.remove(wall);
        return answering(answering(allLines(), g.walls, hour), walls, hour).size();
    }

    int lasts(int hour) {
        needIn(hour, 24);
        List<Line> answers = answering(allLines(), g.walls, hour);
        int best = NONE;
        for (int fog = 0; fog <= 100 && !answers.isEmpty(); fog++) {
            best = answering(answers, fogged(fog), hour).isEmpty() ? best : fog;
        }
        return best;
    }

    // ---- rounds

    int sing(int tick, int sound) {
        needIn(tick, 16);
        needIn(sound + 1, g.sounds.size() + 1);
        round.put(tick, sound);
        return round.lastKey() + 1;
    }

    int round(int what) {
        needIn(what, 3);
        int length = round.isEmpty() ? 0 : round.lastKey() + 1;
        if (what == 2) {
            return length;
        }
        if (what == 0) {
            return clashes(length);
        }
        for (int more = 0; more <= 16; more++) {
            if (clashes(length + more) == 0) {
                return more;
            }
        }
        return NONE;
    }

    /** Sings long enough that every return of the last time through is there. */
    private int clashes(int length) {
        if (length == 0) {
            return 0;
        }
        int before = 130 / length + 1;
        int[][] sung = new int[(before + 1) * length + 200][g.sounds.size()];
        for (int time = 0; time <= before; time++) {
            for (Map.Entry<Integer, Integer> told1 : round.entrySet()) {
                if (told1.getValue() != NONE) {
                    int[][] one = table(List.of(new Saying(told1.getValue(), 0)), g.walls, 0, 12);
                    for (int t = 0; t < 130; t++) {
                        sung[time * length + told1.getKey() + t][told1.getValue()] += one[t][told1.getValue()];
                    }
                }
            }
        }
        int clashes = 0;
        for (int tick = 0; tick < length; tick++) {
            clashes += clash(sung[before * length + tick]) ? 1 : 0;
        }
        return clashes;
    }

    private boolean clash(int[] louds) {
        for (int one = 0; one < louds.length; one++) {
            for (int other = one + 1; other < louds.length; other++) {
                if (louds[one] >= g.least && louds[other] >= g.least && !g.sweet.contains(Set.of(one, other))) {
                    return true;
                }
            }
        }
        return false;
    }

    // ---- what is told

    int tell(int sound) {
        needIn(sound + 1, g.sounds.size() + 1);
        if (told.size() == 60) {
            status[2]++;
            return NONE;
        }
        told.add(sound);
        return told.size();
    }

    int untell() {
        int many = told.size();
        told = new ArrayList<>();
        return many;
    }

    private List<Integer> toldRow() {
        List<Integer> row = new ArrayList<>(told);
        while (row.size() < 60) {
            row.add(NONE);
        }
        return row;
    }

    private static List<Wall> wallsOf(int bits, int share) {
        List<Wall> walls = new ArrayList<>();
        for (int delay = 1; delay <= 20; delay++) {
            if ((bits >> delay - 1 & 1) != 0) {
                walls.add(new Wall(new int[] {delay, delay, delay}, share, Set.of(), 1));
            }
        }
        return walls;
    }

    int rivals(int share, int what) {
        needIn(what, 6);
        if (share < 1 || share > 100) {
            throw new IllegalArgumentException();
        }
        List<Integer> rivals = new ArrayList<>();
        int surely = -1;
        int possibly = 0;
        int first = NONE;
        for (int bits = 0; bits < 1 << 20; bits++) {
            if (Integer.bitCount(bits) <= 3 && heardRow(said, wallsOf(bits, share), 12, 0, 60).equals(toldRow())) {
                rivals.add(bits);
                surely &= bits;
                possibly |= bits;
                first = first == NONE || Integer.bitCount(bits) < Integer.bitCount(first) ? bits : first;
            }
        }
        int next = NONE;
        int nextGroup = 0;
        for (int sound = 0; sound < g.sounds.size() && !rivals.isEmpty() && what > 3; sound++) {
            Map<List<Integer>, Integer> groups = new LinkedHashMap<>();
            for (int bits : rivals) {
                groups.merge(heardRow(List.of(new Saying(sound, 0)), wallsOf(bits, share), 12, 0, 60), 1, Integer::sum);
            }
            int greatest = java.util.Collections.max(groups.values());
            if (next == NONE || greatest < nextGroup) {
                next = sound;
                nextGroup = greatest;
            }
        }
        int[] answers = {rivals.size(), rivals.isEmpty() ? 0 : surely, possibly, first, next, nextGroup};
        return answers[what];
    }

    int sayers(int what) {
        needIn(what, 3);
        List<Saying> spots = new ArrayList<>();
        for (int tick = 0; tick < told.size() && spots.size() < 14; tick++) {
            if (told.get(tick) != NONE) {
                spots.add(new Saying(told.get(tick), tick));
            }
        }
        int sets = 0;
        int best = NONE;
        for (int bits = 0; bits < 1 << spots.size(); bits++) {
            List<Saying> truly = new ArrayList<>();
            for (int i = 0; i < spots.size(); i++) {
                if ((bits >> i & 1) != 0) {
                    truly.add(spots.get(i));
                }
            }
            if (heardRow(truly, g.walls, 12, 0, 60).equals(toldRow())) {
                sets++;
                best = best == NONE || Integer.bitCount(bits) < Integer.bitCount(best) ? bits : best;
            }
        }
        return what == 0 ? sets : best == NONE ? NONE : what == 1 ? Integer.bitCount(best) : best;
    }

    // ---- places

    boolean stand(int ear, int x, int y) {
        needIn(ear, 3);
        if (x < 0 || x > 30 || y < 0 || y > 30) {
            return false;
        }
        ears[ear * 2] = x;
        ears[ear * 2 + 1] = y;
        return true;
    }

    private int ticksTo(int ear, int x, int y) {
        long square = (long) (x - ears[ear * 2]) * (x - ears[ear * 2]) + (long) (y - ears[ear * 2 + 1]) * (y - ears[ear * 2 + 1]);
        long root = 0;
        while ((root + 1) * (root + 1) <= 10_000 * square) {
            root++;
        }
        return (int) (root / 100);
    }

    int[] laterBy(int x, int y) {
        return new int[] {ticksTo(1, x, y) - ticksTo(0, x, y), ticksTo(2, x, y) - ticksTo(0, x, y)};
    }

    private List<Integer> matches(int a, int b) {
        List<Integer> matches = new ArrayList<>();
        for (int y = 0; y <= 30; y++) {
            for (int x = 0; x <= 30; x++) {
                long first = ticksTo(0, x, y);
                if (ticksTo(1, x, y) == first + a && ticksTo(2, x, y) == first + b) {
                    matches.add(31 * y + x);
                }
            }
        }
        return matches;
    }

    int matching(int a, int b, int i) {
        List<Integer> matches = matches(a, b);
        if (i == NONE) {
            return matches.size();
        }
        needIn(i, matches.size());
        return matches.get(i);
    }

    int moved(int a, int b, int c, int d, int steps) {
        if (steps < 0 || steps > 60) {
            throw new IllegalArgumentException();
        }
        int couples = 0;
        List<Integer> others = matches(c, d);
        for (int one : matches(a, b)) {
            for (int other : others) {
                couples += Math.abs(one % 31 - other % 31) + Math.abs(one / 31 - other / 31) <= steps ? 1 : 0;
            }
        }
        return couples;
    }

    // ---- the code

    private boolean fallTogether(int sound, int one, int other) {
        return heardBy(sound, one, other) || heardBy(sound, other, one);
    }

    private boolean heardBy(int sound, int gap, int tick) {
        List<Saying> claps = List.of(new Saying(sound, 0), new Saying(sound, gap));
        return heardRow(claps, g.walls, 12, 0, 20).get(tick) == sound;
    }

    int code(int sound, int what) {
        needIn(sound, g.sounds.size());
        needIn(what, 18);
        int[] together = new int[18];
        for (int gap = 2; gap <= 17; gap++) {
            for (int other = 2; other <= 17; other++) {
                together[gap] |= other != gap && fallTogether(sound, gap, other) ? 1 << other - 2 : 0;
            }
        }
        if (what >= 2) {
            return together[what];
        }
        int best = 0;
        for (int bits = 0; bits < 1 << 16; bits++) {
            boolean fine = true;
            for (int gap = 2; gap <= 17; gap++) {
                fine &= (bits >> gap - 2 & 1) == 0 || (bits & together[gap]) == 0;
            }
            int more = Integer.bitCount(bits) - Integer.bitCount(best);
            if (fine && (more > 0 || more == 0 && sum(bits) < sum(best))) {
                best = bits;
            }
        }
        return what == 0 ? Integer.bitCount(best) : best;
    }

    private static int sum(int bits) {
        int sum = 0;
        for (int gap = 2; gap <= 17; gap++) {
            sum += (bits >> gap - 2 & 1) * gap;
        }
        return sum;
    }

    // ---- the image

    void image() {
        image = new Object[] {new ArrayList<>(said), new ArrayList<>(told), new TreeMap<>(round), ears.clone()};
    }

    @SuppressWarnings("unchecked")
    boolean restore() {
        if (image == null) {
            return false;
        }
        said = new ArrayList<>((List<Saying>) image[0]);
        told = new ArrayList<>((List<Integer>) image[1]);
        round = new TreeMap<>((Map<Integer, Integer>) image[2]);
        ears = Arrays.copyOf((int[]) image[3], 6);
        return true;
    }
}
