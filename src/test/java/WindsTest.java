import java.util.NoSuchElementException;

/** Promises 19 to 25: winds and tangles. */
public final class WindsTest {
    private static final Checks CHECKS = new Checks();

    public static void main(String[] args) {
        settingWinds();
        tops();
        tangles();
        calms();
        CHECKS.finish();
    }

    private static void settingWinds() {
        BalloonHarbour h = new BalloonHarbour();
        CHECKS.due("19 first hour", 0, () -> h.setWind(0, 9));
        CHECKS.due("19 last hour", 0, () -> h.setWind(23, -9));
        CHECKS.due("19 wind before", 9, () -> h.setWind(0, 2));
        CHECKS.due("19 negative before", -9, () -> h.setWind(23, 0));
        CHECKS.due("20", 2, () -> h.wind(0));
        CHECKS.due("20", 0, () -> h.wind(23));
        CHECKS.due("19 same", UnsupportedOperationException.class, () -> h.setWind(0, 2));
        CHECKS.due("19 denial 5", 5, h::denial);
        CHECKS.due("19 detail", 2, h::denialDetail);
        h.setWind(4, -7);
        CHECKS.due("19 same", UnsupportedOperationException.class, () -> h.setWind(4, -7));
        CHECKS.due("19 negative detail", -7, h::denialDetail);
        int[][] wrong = {{-1, 0}, {24, 0}, {0, 10}, {0, -10}, {Integer.MAX_VALUE, 3}, {3, Integer.MIN_VALUE}};
        for (int[] w : wrong) {
            CHECKS.due("19 out of range", IllegalArgumentException.class, () -> h.setWind(w[0], w[1]));
        }
        CHECKS.due("20 below", IllegalArgumentException.class, () -> h.wind(-1));
        CHECKS.due("20 above", IllegalArgumentException.class, () -> h.wind(24));
        CHECKS.due("19 changes", 5, h::undoCount);
    }

    private static void tops() {
        BalloonHarbour h = Checks.after("moor 0 50 20 60;moor 9 50 5 60;wind 0=-3;wind 1=4;wind 2=-9");
        CHECKS.due("21 negative", -60, () -> h.top(0));
        CHECKS.due("21 last berth", 75, () -> h.top(9));
        h.pass(1);
        CHECKS.due("21 next hour", 80, () -> h.top(0));
        CHECKS.due("21 next hour", 110, () -> h.top(9));
        h.pass(24);
        CHECKS.due("21 next day", 110, () -> h.top(9));
        for (int berth : new int[] {-1, 1, 10}) {
            CHECKS.due("21 none", NoSuchElementException.class, () -> h.top(berth));
        }
    }

    private static void tangles() {
        BalloonHarbour h = Checks.after("moor 0 10 40 60;moor 1 5 40 60;moor 2 1 40 60");
        due(h, "without wind", 0);
        h.setWind(0, 2);
        // tops 20, 20, 22: equal ones are not tangled
        due(h, "equal", 0);
        h.setWind(0, 3);
        // 30, 25, 23
        due(h, "all three", 3);
        h.setWind(0, -9);
        // -90, -35, 11
        due(h, "other side", 0);
        BalloonHarbour g = new BalloonHarbour();
        due(g, "no balloon", 0);
        for (int berth = 0; berth < 10; berth++) {
            g.moor(berth, 30 - 3 * berth, 40, 60);
        }
        g.setWind(0, 9);
        // tops fall from 270 by 17 each
        due(g, "all pairs", 45);
        g.castOff(4);
        due(g, "all pairs of nine", 36);
        g.load(0, 20);
        // tops 90, 253, 236, 219, 185, 168, 151, 134, 117
        due(g, "one sank", 28);
        // 36, 46, 29
        due(Checks.after("moor 0 4 9 60;moor 1 4 9 60;moor 2 1 9 60;wind 0=9"), "last one lowest", 2);
    }

    private static void due(BalloonHarbour h, String what, int want) {
        CHECKS.due("22 " + what, want, h::tangles);
        CHECKS.due("23 " + what, want, h::tanglesByMerging);
    }

    private static void calms() {
        BalloonHarbour h = new BalloonHarbour();
        calm(h, 0, 24);
        h.setWind(6, 9);
        calm(h, 0, 23);
        calm(h, 8, 23);
        calm(h, 9, 24);
        h.setWind(16, -4);
        // 17 .. 5 over midnight, and 7 .. 15
        calm(h, 0, 13);
        calm(h, 3, 13);
        calm(h, 4, 23);
        h.setWind(23, -5);
        // 7 .. 15, 17 .. 22, 0 .. 5
        calm(h, 0, 9);
        calm(h, 4, 16);
        calm(h, 5, 23);
        BalloonHarbour g = new BalloonHarbour();
        for (int hour = 0; hour < 24; hour++) {
            g.setWind(hour, hour % 2 == 0 ? 3 : -3);
        }
        calm(g, 2, 0);
        calm(g, 3, 24);
        BalloonHarbour f = Checks.after("wind 12=1;wind 23=1");
        // 0 .. 11, and 13 .. 22
        calm(f, 0, 12);
        for (int strength : new int[] {-1, 10, Integer.MIN_VALUE}) {
            CHECKS.due("24", IllegalArgumentException.class, () -> h.longestCalm(strength));
            CHECKS.due("25", IllegalArgumentException.class, () -> h.longestCalmByTrying(strength));
        }
    }

    private static void calm(BalloonHarbour h, int strength, int want) {
        CHECKS.due("24 up to " + strength, want, () -> h.longestCalm(strength));
        CHECKS.due("25 up to " + strength, want, () -> h.longestCalmByTrying(strength));
    }
}
