import java.util.NoSuchElementException;

/** Promises 33 to 42: hours and accounts. */
public final class HoursTest {
    private static final Checks CHECKS = new Checks();

    public static void main(String[] args) {
        hoursAndLifts();
        wrongHours();
        oneBurst();
        shakenNeighbours();
        queueOrder();
        burstsAhead();
        accounts();
        heightsAndStrains();
        CHECKS.finish();
    }

    private static void hoursAndLifts() {
        BalloonHarbour h = Checks.after("moor 0 50 1 60;moor 1 1 1 60;moor 2 99 1 60");
        int[] lifts = {50, 1, 99};
        for (int hour = 1; hour <= 60; hour++) {
            CHECKS.due("33 no burst", 0, () -> h.pass(1));
            CHECKS.due("35", hour, h::hour);
            for (int berth = 0; berth < 3; berth++) {
                int b = berth;
                boolean warm = hour % 24 >= 6 && hour % 24 <= 17;
                lifts[b] = Math.max(1, Math.min(99, lifts[b] + (warm ? 1 : -1)));
                CHECKS.due("33 lift in hour " + hour, lifts[b], () -> h.lift(b));
            }
        }
        BalloonHarbour g = new BalloonHarbour();
        g.pass(48);
        g.pass(48);
        CHECKS.due("35 several days", 96, g::hour);
    }

    private static void wrongHours() {
        BalloonHarbour h = new BalloonHarbour();
        for (int wrong : new int[] {0, 49, -1, Integer.MAX_VALUE, Integer.MIN_VALUE}) {
            CHECKS.due("33 out of range", IllegalArgumentException.class, () -> h.pass(wrong));
        }
        CHECKS.due("35 nothing passed", 0, h::hour);
        CHECKS.due("33 longest", 0, () -> h.pass(48));
        CHECKS.due("35 longest", 48, h::hour);
    }

    private static void oneBurst() {
        // Rises at hour 6 for the first time after hour 5; 10 - 5 + 6 = 11 at hour 11
        BalloonHarbour h = Checks.after("moor 4 10 40 10;load 4 1");
        CHECKS.due("33 before", 0, () -> h.pass(11));
        CHECKS.due("33 height at strength", 10, () -> h.height(4));
        CHECKS.due("9 at strength", false, () -> h.isBursting(4));
        CHECKS.due("33 bursts in the hour", 1, () -> h.pass(1));
        CHECKS.due("36", 1, h::bursts);
        CHECKS.due("40 bag is lost", 1, h::lost);
        CHECKS.due("33 gone", false, () -> h.isMoored(4));
        CHECKS.due("33 not again", 0, () -> h.pass(48));
        // A balloon that is too high is moored, and bursts in the next hour only if it still is.
        BalloonHarbour g = Checks.after("moor 0 11 40 10;moor 9 12 40 10");
        CHECKS.due("33 lift is less first", 1, () -> g.pass(1));
        CHECKS.due("33 just right", true, () -> g.isMoored(0));
        CHECKS.due("33 last berth", false, () -> g.isMoored(9));
    }

    private static void shakenNeighbours() {
        BalloonHarbour h = Checks.after("moor 0 50 40 60;load 0 2;moor 2 50 40 60;load 2 3;load 2 4",
                "moor 1 50 40 9;load 1 5;moor 4 50 9 9;load 4 1");
        CHECKS.due("33 one bursts", 1, () -> h.pass(1));
        CHECKS.due("33 before it", 0, () -> h.bagCount(0));
        CHECKS.due("33 after it", 1, () -> h.bagCount(2));
        CHECKS.due("33 the last bag goes", 3, () -> h.bagWeight(2, 0));
        CHECKS.due("33 others are not shaken", 1, () -> h.bagCount(4));
        CHECKS.due("40", 11, h::lost);
        CHECKS.due("39", 0, h::dropped);
        // No neighbour over the ends: 0 and 9 are not neighbours.
        BalloonHarbour g = Checks.after("moor 0 50 40 9;moor 9 50 40 60;load 9 3");
        CHECKS.due("33 first berth", 1, () -> g.pass(1));
        CHECKS.due("33 last berth is far", 1, () -> g.bagCount(9));
        BalloonHarbour e = Checks.after("moor 0 50 40 9;moor 1 50 40 60");
        CHECKS.due("33 neighbour without bags", 1, () -> e.pass(1));
        CHECKS.due("40 no bags", 0, e::lost);
        // A shaken balloon that rises above its strength bursts too, and shakes on.
        BalloonHarbour f = Checks.after("moor 3 40 40 9;moor 4 40 40 25;load 4 20",
                "moor 5 40 40 30;load 5 9;load 5 1;load 5 2", "moor 2 40 40 39;load 2 7");
        CHECKS.due("33 two burst", 2, () -> f.pass(1));
        CHECKS.due("33 third stays", 2, () -> f.bagCount(5));
        CHECKS.due("33 other side stays", 0, () -> f.bagCount(2));
        CHECKS.due("40 all bags and the shaken off", 29, f::lost);
    }

    private static void queueOrder() {
        // 1 and 2 are in the queue; 1 shakes 2, which bursts only once all the same; 2 shakes 3, which bursts too.
        BalloonHarbour h = Checks.after("moor 1 50 40 5;moor 2 50 40 5;load 2 20;load 2 10",
                "moor 3 50 40 36;load 3 8;load 3 9");
        CHECKS.due("33 all three", 3, () -> h.pass(1));
        CHECKS.due("40 each bag once", 47, h::lost);
        CHECKS.due("36 each balloon once", 3, h::bursts);
        // 0 and 4 burst first; each shakes a neighbour, of which 1 is queued before 3, and both shake 2.
        BalloonHarbour g = Checks.after("moor 0 50 40 5;moor 1 50 40 35;load 1 15",
                "moor 3 50 40 35;load 3 15;moor 4 50 40 5", "moor 2 50 40 40;load 2 3;load 2 4;load 2 5");
        CHECKS.due("33 four burst", 4, () -> g.pass(1));
        CHECKS.due("33 2 is shaken twice", 1, () -> g.bagCount(2));
        CHECKS.due("33 2 keeps its first bag", 3, () -> g.bagWeight(2, 0));
        // In one row all fall, one after the other; each needs one shake.
        BalloonHarbour f = new BalloonHarbour();
        for (int berth = 0; berth < 10; berth++) {
            f.moor(berth, 50, 40, 39);
            f.load(berth, berth == 0 ? 1 : 20);
        }
        CHECKS.due("34 ten", 10, f::burstsAhead);
        CHECKS.due("33 ten", 10, () -> f.pass(1));
        CHECKS.due("4 none left", 0, f::balloonCount);
        CHECKS.due("40 all", 181, f::lost);
    }

    private static void burstsAhead() {
        BalloonHarbour h = Checks.after("moor 0 11 40 10;moor 1 20 40 10;load 1 9",
                "moor 2 40 40 9;load 2 1");
        // In the next hour: heights 10 of 10, 10 of 10, 38 of 9; 2 bursts and shakes 1, which bursts then.
        CHECKS.due("34", 2, h::burstsAhead);
        CHECKS.due("34 changes nothing", 3, h::balloonCount);
        CHECKS.due("34 no hour", 0, h::hour);
        CHECKS.due("34 no loss", 0, h::lost);
        CHECKS.due("34 no burst", 0, h::bursts);
        CHECKS.due("34 no change", 2, h::undoCount);
        CHECKS.due("33 as told ahead", 2, () -> h.pass(1));
        CHECKS.due("34 none ahead", 0, h::burstsAhead);
        h.pass(4);
        // 11 - 5 = 6 at hour 5, with strength 6 it bursts at hour 6 as the lift increases then
        BalloonHarbour g = Checks.after("wait 5;moor 3 6 40 6");
        CHECKS.due("34 lift increases", 1, g::burstsAhead);
        CHECKS.due("9 not yet", false, () -> g.isBursting(3));
        // 7 of 7 at hour 6, and 8 of 7 not before hour 7
        CHECKS.due("34 one hour only", 0, () -> Checks.after("wait 5;moor 3 6 40 7").burstsAhead());
    }

    private static void accounts() {
        BalloonHarbour h = Checks.after("moor 0 99 40 60;load 0 20;load 0 15;moor 1 40 40 9;load 1 3");
        CHECKS.due("37", 38, h::loaded);
        CHECKS.due("38", 38, h::aboard);
        h.drop(0, 0);
        CHECKS.due("39", 20, h::dropped);
        CHECKS.due("38 after drop", 18, h::aboard);
        h.pass(1);
        // 1 is lost with 3, and 0 is shaken and loses 15
        CHECKS.due("40", 18, h::lost);
        CHECKS.due("38 nothing", 0, h::aboard);
        CHECKS.due("37 stays", 38, h::loaded);
        CHECKS.due("36", 1, h::bursts);
    }

    private static void heightsAndStrains() {
        BalloonHarbour h = new BalloonHarbour();
        CHECKS.due("41 none", ArithmeticException.class, h::meanHeight);
        CHECKS.due("42 none", NoSuchElementException.class, () -> h.strain(0));
        CHECKS.due("42 berth", NoSuchElementException.class, () -> h.strain(10));
        CHECKS.due("42 negative berth", NoSuchElementException.class, () -> h.strain(-1));
        Checks.run(h, "moor 0 10 40 3;moor 5 20 40 60;moor 9 7 9 7");
        CHECKS.due("41", 37.0 / 3.0, h::meanHeight);
        CHECKS.due("42", 10f / 3f, () -> h.strain(0));
        CHECKS.due("42 third", 20f / 60f, () -> h.strain(5));
        CHECKS.due("42 one", 1f, () -> h.strain(9));
        h.load(9, 20);
        CHECKS.due("42 zero", 0f, () -> h.strain(9));
        CHECKS.due("41 zero counts", 10.0, h::meanHeight);
    }
}
