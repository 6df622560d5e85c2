import java.lang.management.ManagementFactory;

/** The dearest calls: that they end soon, and that no call makes anything that stays in the room. */
public final class RoomTest {
    private static final Check CHECK = new Check();
    private static final long SECOND = 1_000_000_000L;

    public static void main(String[] args) {
        dearest();
        room();
        CHECK.end();
    }

    private static String crowded() {
        StringBuilder text = new StringBuilder();
        for (int i = 0; i < 8; i++) {
            text.append("sound ").append(99 - i).append(" 0;");
        }
        for (int i = 0; i < 6; i++) {
            text.append("wall ").append(30 + i).append(" 1 1 9").append(i).append(" again 3;");
        }
        for (int i = 0; i < 8; i++) {
            text.append("word 0 ").append(i).append(" 0 1 ").append(i).append(';');
        }
        return text.append("form 0 0 0;".repeat(6)).append("mask 1 9 0;").toString();
    }

    private static void within(String what, long seconds, Runnable calls) {
        long start = System.nanoTime();
        calls.run();
        CHECK.due(what + " took more than " + seconds + " seconds", System.nanoTime() - start > seconds * SECOND, false);
    }

    private static void dearest() {
        EchoGorge x = Check.made(crowded());
        within("lines", 20, () -> x.lines(12, 0));
        EchoGorge y = Check.made("sound 99 0;wall 12 1 1 60;mask 30 0 0;" + "word 0 0 0 0 0;".repeat(8) + "form 0 0 0;".repeat(6));
        within("lasts", 20, () -> CHECK.due("lasts", y.lasts(12), 48));
        EchoGorge z = Check.made("sound 99 0;wall 1 1 1 100 again 3;wall 20 1 1 100;");
        for (int i = 0; i < 60; i++) {
            z.tell(0);
        }
        within("sayers", 20, () -> z.sayers(0));
        for (int i = 0; i < 60; i++) {
            z.say(0, i);
        }
        within("rivals", 20, () -> CHECK.due("rivals", z.rivals(50, 0), 1351));
        within("moved", 20, () -> z.moved(0, 0, 0, 0, 60));
    }

    private static long made() {
        java.lang.management.ThreadMXBean threads = ManagementFactory.getThreadMXBean();
        return threads instanceof com.sun.management.ThreadMXBean counting
                ? counting.getThreadAllocatedBytes(Thread.currentThread().getId()) : 0;
    }

    private static void everyCall(EchoGorge x, int i) {
        x.say(i % 8, i);
        x.heard(i % 3, i % 24, i);
        x.loud(i % 3, i % 24, i, i % 8);
        x.sing(i % 16, i % 8);
        x.round(i % 3);
        x.tell(i % 9 - 1);
        x.rivals(1 + i % 100, i % 6);
        x.sayers(i % 3);
        x.stand(i % 3, i % 31, i * 7 % 31);
        x.matching(i % 5, i % 7, -1);
        x.moved(i % 5, i % 7, i % 3, 0, i % 61);
        x.code(i % 8, i % 18);
        x.image();
        x.restore();
        x.lines(i % 2, i % 5);
        x.still(i % 2, 100 - i);
        x.without(i % 2, i % 6);
        x.wall(i % 6, i % 6);
        x.word(i % 8, i % 6);
        x.count(i % 11);
        x.untell();
        x.hush();
    }

    private static void room() {
        long before = made();
        EchoGorge x = new EchoGorge();
        long object = made() - before;
        // 7.3 million fields and elements in all: some 20,000 of an object leave room for hundreds of them
        CHECK.due("an object of " + object + " bytes is larger than 80,000", object > 80_000, false);
        String text = crowded();
        calls(x, text, 0);
        before = made();
        for (int i = 0; i < 8; i++) {
            calls(x, text, i);
        }
        long bytes = made() - before;
        CHECK.due("calls that make " + bytes + " bytes", bytes > 20_000, false);
    }

    private static void calls(EchoGorge x, String text, int i) {
        Check.gorge(x, text);
        everyCall(x, i);
    }
}
