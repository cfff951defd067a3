import java.util.NoSuchElementException;

/** Promises 48 to 50: the latest denial. */
public final class DenialsTest {
    private static final Checks CHECKS = new Checks();

    public static void main(String[] args) {
        BalloonHarbour h = new BalloonHarbour();
        none(h);
        CHECKS.due("bad argument", IllegalArgumentException.class, () -> h.moor(0, 0, 0, 0));
        CHECKS.due("no balloon", NoSuchElementException.class, () -> h.load(0, 1));
        CHECKS.due("no pilot", IndexOutOfBoundsException.class, () -> h.removePilot(0));
        CHECKS.due("no grammar", IllegalArgumentException.class, h::execute);
        none(h);
        h.moor(0, 9, 7, 60);
        CHECKS.due("taken", UnsupportedOperationException.class, () -> h.moor(0, 1, 1, 1));
        denial(h, 2, 7);
        CHECKS.due("50 no cause", NoSuchElementException.class, h::denialCause);
        h.load(0, 5);
        CHECKS.due("bad argument", IllegalArgumentException.class, () -> h.load(0, 0));
        denial(h, 2, 7);
        CHECKS.due("taken", UnsupportedOperationException.class, () -> h.moor(0, 1, 1, 1));
        denial(h, 2, 4);
        CHECKS.due("a text", UnsupportedOperationException.class, () -> Checks.run(h, "wait 1;rise 0 8"));
        denial(h, 6, 1);
        CHECKS.due("50", 3, h::denialCause);
        CHECKS.due("a text", UnsupportedOperationException.class, () -> Checks.run(h, "leave 3"));
        denial(h, 6, 0);
        CHECKS.due("50 exception", 7, h::denialCause);
        h.undo();
        h.saveSnapshot();
        h.restoreSnapshot();
        denial(h, 6, 0);
        CHECKS.due("50 kept", 7, h::denialCause);
        CHECKS.due("same wind", UnsupportedOperationException.class, () -> h.setWind(0, 0));
        denial(h, 5, 0);
        CHECKS.due("50 no cause any more", NoSuchElementException.class, h::denialCause);
        CHECKS.due("a text that works", 1, () -> Checks.run(h, "wind 0=1"));
        denial(h, 5, 0);
        CHECKS.finish();
    }

    private static void none(BalloonHarbour h) {
        CHECKS.due("48 none", NoSuchElementException.class, h::denial);
        CHECKS.due("49 none", NoSuchElementException.class, h::denialDetail);
        CHECKS.due("50 none", NoSuchElementException.class, h::denialCause);
    }

    private static void denial(BalloonHarbour h, int number, int detail) {
        CHECKS.due("48", number, h::denial);
        CHECKS.due("49", detail, h::denialDetail);
    }
}
