import java.util.NoSuchElementException;

/** Promises 23 to 25: stand, matching, moved. */
public final class PlacesTest {
    private static final Check CHECK = new Check();

    public static void main(String[] args) {
        stand();
        matching();
        cutDown();
        moved();
        wrongInputs();
        CHECK.end();
    }

    private static void stand() {
        EchoGorge x = new EchoGorge();
        CHECK.due("a place", x.stand(0, 30, 0), true);
        CHECK.due("x 31", x.stand(0, 31, 0), false);
        CHECK.due("y 31", x.stand(0, 0, 31), false);
        CHECK.due("x -1", x.stand(0, -1, 0), false);
        CHECK.due("y -1", x.stand(0, 0, -1), false);
        CHECK.due("y most", x.stand(0, 0, Integer.MAX_VALUE), false);
        CHECK.dueThrow("ear 3", NoSuchElementException.class, () -> x.stand(3, 0, 0));
        CHECK.dueThrow("ear -1", NoSuchElementException.class, () -> x.stand(-1, 0, 0));
        // the ear still stands at 30, 0: to the others at 0, 0 a clap there comes 30 later
        CHECK.due("a refused place changes nothing", x.matching(30, 30, 0), 30);
    }

    private static void matching() {
        EchoGorge x = new EchoGorge();
        CHECK.due("all ears at 0, 0", x.matching(0, 0, -1), 961);
        CHECK.due("the first", x.matching(0, 0, 0), 0);
        CHECK.due("y, then x", x.matching(0, 0, 32), 32);
        CHECK.due("the last", x.matching(0, 0, 960), 960);
        CHECK.dueThrow("one more", NoSuchElementException.class, () -> x.matching(0, 0, 961));
        CHECK.dueThrow("i -2", NoSuchElementException.class, () -> x.matching(0, 0, -2));
        CHECK.due("1 later: none", x.matching(1, 0, -1), 0);
        x.stand(1, 30, 0);
        x.stand(2, 0, 30);
        // on the straight line to ear 1 and beyond ear 0 alone
        CHECK.due("30 later at both", x.matching(30, 30, -1), 1);
        CHECK.due("at 0, 0", x.matching(30, 30, 0), 0);
        CHECK.due("30 sooner at ear 1", x.matching(-30, 12, -1), 1);
        CHECK.due("at 30, 0: 31 by y and x", x.matching(-30, 12, 0), 30);
        CHECK.due("30 sooner at ear 2", x.matching(12, -30, 0), 930);
        CHECK.due("the corner 30, 30", x.matching(-12, -12, -1) > 0, true);
        CHECK.due("a of the least", x.matching(Integer.MIN_VALUE, 0, -1), 0);
        CHECK.due("b of the most", x.matching(0, Integer.MAX_VALUE, -1), 0);
    }

    private static void cutDown() {
        EchoGorge x = new EchoGorge();
        x.stand(0, 0, 0);
        x.stand(1, 1, 1);
        x.stand(2, 2, 2);
        // from 0, 0: the roots of 2 and of 8 are 1.41 and 2.83
        CHECK.due("cut down", firstPlaces(x, 1, 2), "0");
        x.stand(2, 3, 4);
        CHECK.due("3 and 4 are 5", x.matching(1, 5, 0), 0);
        x.stand(2, 30, 30);
        // the root of 1800 is 42.4
        CHECK.due("the furthest", x.matching(1, 42, 0), 0);
        x.stand(1, 7, 7);
        // the root of 98 is 9.9
        CHECK.due("not made round", x.matching(9, 42, 0), 0);
    }

    private static String firstPlaces(EchoGorge x, int a, int b) {
        return x.matching(a, b, -1) == 0 ? "none" : "" + x.matching(a, b, 0);
    }

    private static void moved() {
        EchoGorge x = new EchoGorge();
        CHECK.due("all couples", x.moved(0, 0, 0, 0, 60), 961 * 961);
        CHECK.due("all but the far corners", x.moved(0, 0, 0, 0, 59), 961 * 961 - 4);
        CHECK.due("no steps", x.moved(0, 0, 0, 0, 0), 961);
        CHECK.due("one step", x.moved(0, 0, 0, 0, 1), 961 + 4 * 31 * 30);
        CHECK.due("none matches", x.moved(0, 0, 1, 0, 60), 0);
        CHECK.due("none matches at first", x.moved(1, 0, 0, 0, 60), 0);
        x.stand(1, 30, 0);
        x.stand(2, 0, 30);
        CHECK.due("from 0, 0 to 30, 0", x.moved(30, 30, -30, 12, 30), 1);
        CHECK.due("not in 29 steps", x.moved(30, 30, -30, 12, 29), 0);
        CHECK.due("from 30, 0 to 0, 30: x and y together", x.moved(-30, 12, 12, -30, 60), 1);
        CHECK.due("not in 59 steps", x.moved(-30, 12, 12, -30, 59), 0);
    }

    private static void wrongInputs() {
        EchoGorge x = new EchoGorge();
        CHECK.dueThrow("steps -1", IllegalArgumentException.class, () -> x.moved(0, 0, 0, 0, -1));
        CHECK.dueThrow("steps 61", IllegalArgumentException.class, () -> x.moved(0, 0, 0, 0, 61));
        CHECK.dueThrow("steps most", IllegalArgumentException.class, () -> x.moved(0, 0, 0, 0, Integer.MAX_VALUE));
        CHECK.due("steps 60 of extremes", x.moved(Integer.MIN_VALUE, 0, Integer.MAX_VALUE, 0, 60), 0);
    }
}
