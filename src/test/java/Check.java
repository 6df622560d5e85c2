import java.util.concurrent.Callable;

/** Counts the answers that are not as due; every test ends by end(). */
final class Check {
    private int wrong = 0;
    private int asked = 0;

    void due(String call, Object got, Object want) {
        asked++;
        if (!want.equals(got)) {
            wrong++;
            System.out.println(call + " answered " + got + ", due is " + want);
        }
    }

    void dueThrow(String call, Class<? extends RuntimeException> want, Callable<?> asking) {
        due(call, outcome(asking), "throws." + want.getSimpleName());
    }

    /** The answer as a text, or throws. and the exception's name. */
    static Object outcome(Callable<?> asking) {
        try {
            return String.valueOf(asking.call());
        } catch (Exception e) {
            return "throws." + e.getClass().getSimpleName();
        }
    }

    /** Feeds a text, filled up with blanks, and answers what gorge() says of it. */
    static int gorge(EchoGorge x, String text) {
        feed(x, text);
        return x.gorge(text.length());
    }

    static int feed(EchoGorge x, String text) {
        int fed = 0;
        for (int at = 0; at < text.length(); at += 20) {
            fed = x.feed(number(text, at), number(text, at + 4), number(text, at + 8), number(text, at + 12),
                    number(text, at + 16));
        }
        return fed;
    }

    static int number(String text, int at) {
        int all = 0;
        for (int i = at; i < at + 4; i++) {
            all = all << 8 | (i < text.length() ? text.charAt(i) & 255 : ' ');
        }
        return all;
    }

    static EchoGorge made(String text) {
        EchoGorge x = new EchoGorge();
        int fault = gorge(x, text);
        if (fault != 0) {
            throw new IllegalStateException("fault " + fault + " at " + x.fault() + " of " + text);
        }
        return x;
    }

    void end() {
        System.out.println(asked + " answers, " + wrong + " of them not as due");
        if (wrong != 0) {
            System.exit(1);
        }
    }
}
