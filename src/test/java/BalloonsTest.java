import java.util.NoSuchElementException;

/** Promises 1 to 10: a new object, and balloons. */
public final class BalloonsTest {
    private static final Checks CHECKS = new Checks();

    public static void main(String[] args) {
        newObject();
        mooring();
        mooringOutOfRange();
        castingOff();
        balloonQueries();
        bursting();
        ranks();
        CHECKS.finish();
    }

    private static void newObject() {
        BalloonHarbour h = new BalloonHarbour();
        CHECKS.due("1 balloonCount", 0, h::balloonCount);
        CHECKS.due("1 pilotCount", 0, h::pilotCount);
        CHECKS.due("1 hour", 0, h::hour);
        CHECKS.due("1 bursts", 0, h::bursts);
        CHECKS.due("1 loaded", 0, h::loaded);
        CHECKS.due("1 undoCount", 0, h::undoCount);
        CHECKS.due("1 longestCalm", 24, () -> h.longestCalm(0));
        for (int berth = 0; berth < 10; berth++) {
            int b = berth;
            CHECKS.due("1 isMoored", false, () -> h.isMoored(b));
        }
        for (int hour = 0; hour < 24; hour++) {
            int hourOfDay = hour;
            CHECKS.due("1 wind", 0, () -> h.wind(hourOfDay));
        }
    }

    private static void mooring() {
        BalloonHarbour h = new BalloonHarbour();
        CHECKS.due("2 string is shorter", 40, () -> h.moor(0, 99, 40, 60));
        CHECKS.due("2 least values", 1, () -> h.moor(9, 1, 1, 1));
        CHECKS.due("2 lift is smaller", 7, () -> h.moor(4, 7, 12, 3));
        CHECKS.due("2 no bags", 0, () -> h.bagCount(4));
        CHECKS.due("2 denied", UnsupportedOperationException.class, () -> h.moor(4, 1, 1, 1));
        CHECKS.due("2 denial 2", 2, h::denial);
        CHECKS.due("2 detail is the height", 7, h::denialDetail);
        CHECKS.due("2 the balloon stays", 7, () -> h.lift(4));
        CHECKS.due("2 range before denial", IllegalArgumentException.class, () -> h.moor(4, 1, 1, 61));
        CHECKS.due("2 count", 3, h::balloonCount);
        CHECKS.due("2 undoCount", 3, h::undoCount);
        h.load(4, 5);
        h.castOff(4);
        h.moor(4, 20, 30, 30);
        CHECKS.due("2 no bags of the balloon before", 0, () -> h.bagCount(4));
        CHECKS.due("2 no ballast of the balloon before", 20, () -> h.height(4));
    }

    private static void mooringOutOfRange() {
        BalloonHarbour h = new BalloonHarbour();
        int[][] wrong = {
            {-1, 1, 1, 1}, {10, 1, 1, 1}, {0, 0, 1, 1}, {0, 100, 1, 1}, {0, 1, 0, 1}, {0, 1, 41, 1},
            {0, 1, 1, 0}, {0, 1, 1, 61}, {Integer.MIN_VALUE, 1, 1, 1}, {0, Integer.MAX_VALUE, 1, 1}};
        for (int[] w : wrong) {
            CHECKS.due("2 out of range", IllegalArgumentException.class, () -> h.moor(w[0], w[1], w[2], w[3]));
        }
        CHECKS.due("2 nothing moored", 0, h::balloonCount);
        CHECKS.due("2 nothing to undo", 0, h::undoCount);
        CHECKS.due("2 no denial", NoSuchElementException.class, h::denial);
    }

    private static void castingOff() {
        BalloonHarbour h = Checks.after("moor 2 30 20 60;load 2 5;load 2 9;moor 3 9 9 9");
        CHECKS.due("3 nothing there", NoSuchElementException.class, () -> h.castOff(1));
        CHECKS.due("3 no such berth", NoSuchElementException.class, () -> h.castOff(10));
        CHECKS.due("3 negative berth", NoSuchElementException.class, () -> h.castOff(-1));
        CHECKS.due("3 ballast", 14, () -> h.castOff(2));
        CHECKS.due("3 gone", false, () -> h.isMoored(2));
        CHECKS.due("3 count", 1, h::balloonCount);
        CHECKS.due("3 dropped", 14, h::dropped);
        CHECKS.due("3 not lost", 0, h::lost);
        CHECKS.due("3 not aboard", 0, h::aboard);
        CHECKS.due("3 not a burst", 0, h::bursts);
        CHECKS.due("3 gone twice", NoSuchElementException.class, () -> h.castOff(2));
        CHECKS.due("3 without bags", 0, () -> h.castOff(3));
        CHECKS.due("4 none left", 0, h::balloonCount);
    }

    private static void balloonQueries() {
        BalloonHarbour h = Checks.after("moor 0 30 20 60;load 0 15;load 0 10", "moor 9 50 20 9;moor 5 9 8 8");
        CHECKS.due("4", 3, h::balloonCount);
        CHECKS.due("5 first berth", true, () -> h.isMoored(0));
        CHECKS.due("5 last berth", true, () -> h.isMoored(9));
        CHECKS.due("5 empty berth", false, () -> h.isMoored(1));
        CHECKS.due("5 below", IllegalArgumentException.class, () -> h.isMoored(-1));
        CHECKS.due("5 above", IllegalArgumentException.class, () -> h.isMoored(10));
        CHECKS.due("6", 30, () -> h.lift(0));
        CHECKS.due("6 last berth", 50, () -> h.lift(9));
        CHECKS.due("7", 25, () -> h.ballast(0));
        CHECKS.due("7 no bags", 0, () -> h.ballast(9));
        CHECKS.due("8 spare lift", 5, () -> h.height(0));
        CHECKS.due("8 string", 20, () -> h.height(9));
        CHECKS.due("8 one shorter string", 8, () -> h.height(5));
        h.load(0, 20);
        CHECKS.due("8 not negative", 0, () -> h.height(0));
        for (int berth : new int[] {-1, 1, 10, Integer.MAX_VALUE}) {
            CHECKS.due("6 none", NoSuchElementException.class, () -> h.lift(berth));
            CHECKS.due("7 none", NoSuchElementException.class, () -> h.ballast(berth));
            CHECKS.due("8 none", NoSuchElementException.class, () -> h.height(berth));
            CHECKS.due("9 none", NoSuchElementException.class, () -> h.isBursting(berth));
        }
    }

    private static void bursting() {
        BalloonHarbour h = Checks.after("moor 0 30 20 19;moor 1 30 20 20", "moor 2 20 30 19;moor 3 20 30 20");
        CHECKS.due("9 string above", true, () -> h.isBursting(0));
        CHECKS.due("9 string equal", false, () -> h.isBursting(1));
        CHECKS.due("9 lift above", true, () -> h.isBursting(2));
        CHECKS.due("9 lift equal", false, () -> h.isBursting(3));
        h.load(2, 1);
        CHECKS.due("9 ballast counts", false, () -> h.isBursting(2));
        h.load(0, 10);
        CHECKS.due("9 string still above", true, () -> h.isBursting(0));
        Checks.run(h, "load 3 20;load 3 20");
        CHECKS.due("9 overloaded", false, () -> h.isBursting(3));
    }

    private static void ranks() {
        BalloonHarbour h = Checks.after("moor 1 10 40 60;moor 3 30 20 60;moor 5 40 10 60",
                "moor 7 20 40 60;load 7 10;moor 8 20 10 60");
        // heights 10, 20, 10, 10, 10; ballasts 0, 0, 0, 10, 0
        int[] due = {3, 7, 1, 5, 8};
        for (int rank = 0; rank < due.length; rank++) {
            int r = rank;
            CHECKS.due("10 rank " + rank, due[rank], () -> h.berthByHeight(r));
        }
        // heights 10, 11, 11; ballasts 0, 0, 1
        BalloonHarbour g = Checks.after("moor 0 10 40 60;moor 1 11 40 60;moor 2 12 40 60;load 2 1");
        CHECKS.due("10 heavier by 1", 2, () -> g.berthByHeight(0));
        CHECKS.due("10 higher by 1", 1, () -> g.berthByHeight(1));
        CHECKS.due("10 lowest", 0, () -> g.berthByHeight(2));
        Checks.run(g, "cast 0;moor 0 12 40 60");
        CHECKS.due("10 first berth ahead", 0, () -> g.berthByHeight(0));
        CHECKS.due("10 behind all others", 1, () -> g.berthByHeight(2));
        CHECKS.due("10 above", NoSuchElementException.class, () -> h.berthByHeight(5));
        CHECKS.due("10 below", NoSuchElementException.class, () -> h.berthByHeight(-1));
        CHECKS.due("10 none", NoSuchElementException.class, () -> new BalloonHarbour().berthByHeight(0));
    }
}
