import java.util.Random;
import java.util.concurrent.Callable;

/** Runs of calls by seeds, each answer held against the model's. */
public final class AgainstModelTest {
    private final Check check;
    private final Random random;
    private final int seed;
    private final EchoGorge x = new EchoGorge();
    private final Model m = new Model();
    private int calls = 0;
    /** The latest text fed, which a failing run is told with. */
    private String text = "";

    private AgainstModelTest(Check check, int seed) {
        this.check = check;
        this.seed = seed;
        this.random = new Random(seed);
    }

    private void same(String call, Callable<?> got, Callable<?> want) {
        calls++;
        check.due("seed " + seed + " [" + text + "] call " + calls + ": " + call, Check.outcome(got), Check.outcome(want));
    }

    private int in(int from, int to) {
        return from + random.nextInt(to - from + 1);
    }

    private boolean chance(int percent) {
        return random.nextInt(100) < percent;
    }

    private int odd(int least, int most) {
        int[] edges = {Integer.MIN_VALUE, Integer.MAX_VALUE, least - 1, most + 1, least, most, -2};
        return chance(6) ? edges[random.nextInt(edges.length)] : in(least, most);
    }

    private int sound() {
        return odd(0, Math.max(0, m.count(0) - 1));
    }

    private int soundOrNone() {
        return chance(25) ? -1 : sound();
    }

    private void gorge(String newText) {
        text = newText.replace('\n', '~');
        for (int at = 0; at < newText.length(); at += 20) {
            int[] n = new int[5];
            for (int i = 0; i < 5; i++) {
                n[i] = Check.number(newText, at + 4 * i);
            }
            same("feed", () -> x.feed(n[0], n[1], n[2], n[3], n[4]), () -> m.feed(n));
        }
        int n = chance(3) ? newText.length() + in(-5, 25) : newText.length();
        same("gorge(" + n + ")", () -> x.gorge(n), () -> m.gorge(n));
        same("fault()", x::fault, m::fault);
        for (int what = -1; what <= 11; what++) {
            int w = what;
            same("count(" + w + ")", () -> x.count(w), () -> m.count(w));
        }
    }

    private void asText() {
        int a = odd(0, 6);
        int b = odd(0, 6);
        same("wall(" + a + ", " + b + ")", () -> x.wall(a, b), () -> m.wall(a, b));
        same("word(" + a + ", " + b + ")", () -> x.word(a, b), () -> m.word(a, b));
    }

    private void say() {
        int s = sound();
        int t = odd(0, chance(60) ? 20 : 199);
        same("say(" + s + ", " + t + ")", () -> x.say(s, t), () -> m.say(s, t));
    }

    private void hear() {
        int ear = odd(0, 2);
        int hour = odd(0, 23);
        int tick = odd(0, chance(70) ? 30 : 399);
        int s = sound();
        same("heard(" + ear + ", " + hour + ", " + tick + ")", () -> x.heard(ear, hour, tick), () -> m.heard(ear, hour, tick));
        same("loud(" + ear + ", " + hour + ", " + tick + ", " + s + ")", () -> x.loud(ear, hour, tick, s),
                () -> m.loud(ear, hour, tick, s));
    }

    private void askLines() {
        if (m.count(10) > 150) {
            return;
        }
        int hour = chance(50) ? 12 : odd(0, 23);
        int what = odd(0, 4);
        int i = odd(-1, 4);
        int fog = odd(0, chance(50) ? 100 : 30);
        int wall = odd(0, Math.max(0, m.count(1) - 1));
        same("lines(" + hour + ", " + what + ")", () -> x.lines(hour, what), () -> m.lines(hour, what));
        same("line(" + hour + ", " + i + ", " + what + ")", () -> x.line(hour, i, what), () -> m.line(hour, i, what));
        same("still(" + hour + ", " + fog + ")", () -> x.still(hour, fog), () -> m.still(hour, fog));
        same("without(" + hour + ", " + wall + ")", () -> x.without(hour, wall), () -> m.without(hour, wall));
        if (chance(30)) {
            same("lasts(" + hour + ")", () -> x.lasts(hour), () -> m.lasts(hour));
        }
    }

    private void singRound() {
        int t = odd(0, chance(50) ? 5 : 15);
        int s = soundOrNone();
        same("sing(" + t + ", " + s + ")", () -> x.sing(t, s), () -> m.sing(t, s));
        int what = odd(0, 2);
        same("round(" + what + ")", () -> x.round(what), () -> m.round(what));
    }

    private void tell() {
        int s = soundOrNone();
        same("tell(" + s + ")", () -> x.tell(s), () -> m.tell(s));
    }

    /** Tells what is heard of some sayings, which are gone behind it or stay. */
    private void tellHeard() {
        same("hush()", x::hush, m::hush);
        same("untell()", x::untell, m::untell);
        for (int i = in(1, 5); i > 0; i--) {
            int s = in(0, Math.max(0, m.count(0) - 1));
            int t = in(0, chance(70) ? 15 : 50);
            same("say(" + s + ", " + t + ")", () -> x.say(s, t), () -> m.say(s, t));
        }
        int changed = chance(30) ? in(0, 59) : -1;
        for (int tick = 0; tick < in(30, 61); tick++) {
            int s = tick == changed ? -1 : m.heard(0, 12, Math.min(tick, 59));
            same("tell(" + s + ")", () -> x.tell(s), () -> m.tell(s));
        }
        askRivals();
        askSayers();
    }

    private void askRivals() {
        int share = chance(60) && m.count(1) > 0 ? Math.max(1, m.wall(0, 3)) : odd(1, 100);
        for (int what = in(-1, 4); what <= 6; what += 2) {
            int w = what;
            same("rivals(" + share + ", " + w + ")", () -> x.rivals(share, w), () -> m.rivals(share, w));
        }
    }

    private void askSayers() {
        int what = odd(0, 2);
        same("sayers(" + what + ")", () -> x.sayers(what), () -> m.sayers(what));
    }

    /** By how much later a clap at some place comes to ears 1 and 2, or by how much none does. */
    private int[] laterBy() {
        if (chance(20)) {
            return new int[] {odd(-12, 12), odd(-12, 12)};
        }
        int place = in(0, 960);
        return m.laterBy(place % 31, place / 31);
    }

    private void askPlaces() {
        int ear = odd(0, 2);
        int px = odd(0, 30);
        int py = odd(0, 30);
        same("stand(" + ear + ", " + px + ", " + py + ")", () -> x.stand(ear, px, py), () -> m.stand(ear, px, py));
        int[] one = laterBy();
        int a = one[0];
        int b = one[1];
        int i = odd(-1, 8);
        int[] other = chance(30) ? one : laterBy();
        int c = other[0];
        int d = other[1];
        int steps = odd(0, 60);
        same("matching(" + a + ", " + b + ", -1)", () -> x.matching(a, b, -1), () -> m.matching(a, b, -1));
        same("matching(" + a + ", " + b + ", " + i + ")", () -> x.matching(a, b, i), () -> m.matching(a, b, i));
        same("moved(" + a + ", " + b + ", " + c + ", " + d + ", " + steps + ")", () -> x.moved(a, b, c, d, steps),
                () -> m.moved(a, b, c, d, steps));
    }

    private void askCode() {
        int s = sound();
        int what = odd(0, 17);
        same("code(" + s + ", " + what + ")", () -> x.code(s, what), () -> m.code(s, what));
    }

    private void keep() {
        switch (in(0, 5)) {
            case 0 -> {
                x.image();
                m.image();
            }
            case 1 -> same("restore()", x::restore, m::restore);
            case 2 -> same("hush()", x::hush, m::hush);
            case 3 -> same("untell()", x::untell, m::untell);
            default -> same("fault()", x::fault, m::fault);
        }
    }

    private void callSome(int most) {
        int until = Math.min(460, calls + most);
        while (calls < until) {
            int dice = in(0, 99);
            if (dice < 5) {
                asText();
            } else if (dice < 15) {
                for (int i = in(1, 4); i > 0; i--) {
                    say();
                }
            } else if (dice < 35) {
                hear();
            } else if (dice < 45) {
                askLines();
            } else if (dice < 65) {
                singRound();
            } else if (dice < 72) {
                tell();
            } else if (dice < 74) {
                askRivals();
            } else if (dice < 76) {
                askSayers();
            } else if (dice < 85) {
                askPlaces();
            } else if (dice < 90) {
                askCode();
            } else {
                keep();
            }
        }
    }

    private void run() {
        RandomText texts = new RandomText(random);
        if (chance(20)) {
            callSome(20);
        }
        boolean plain = chance(50);
        gorge(texts.gorge(plain, in(0, 5)));
        if (chance(60)) {
            tellHeard();
        }
        callSome(100);
        while (calls < 380) {
            String fine = texts.gorge(chance(50), in(0, 7));
            gorge(chance(70) ? texts.spoil(fine) : fine);
            callSome(chance(30) ? 60 : 5);
        }
    }

    public static void main(String[] args) {
        Check check = new Check();
        int from = args.length > 0 ? Integer.parseInt(args[0]) : 1;
        int to = args.length > 1 ? Integer.parseInt(args[1]) : 120;
        for (int seed = from; seed <= to; seed++) {
            new AgainstModelTest(check, seed).run();
        }
        check.end();
    }
}
