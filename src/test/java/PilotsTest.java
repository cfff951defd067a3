import java.util.NoSuchElementException;

/** Promises 26 to 32: pilots. */
public final class PilotsTest {
    private static final Checks CHECKS = new Checks();

    public static void main(String[] args) {
        comingAndLeaving();
        duties();
        crews();
        mostCrewed();
        CHECKS.finish();
    }

    private static void comingAndLeaving() {
        BalloonHarbour h = new BalloonHarbour();
        int[][] wrong = {{0, 0, 0}, {31, 0, 0}, {1, -1, 0}, {1, 24, 0}, {1, 0, -1}, {1, 0, 24},
            {Integer.MIN_VALUE, 0, 0}};
        for (int[] w : wrong) {
            CHECKS.due("26 out of range", IllegalArgumentException.class, () -> h.addPilot(w[0], w[1], w[2]));
        }
        for (int pilot = 0; pilot < 6; pilot++) {
            int p = pilot;
            CHECKS.due("26 index", pilot, () -> h.addPilot(5 * p + 5, p, p));
            CHECKS.due("28", pilot + 1, h::pilotCount);
        }
        CHECKS.due("26 range before limit", IllegalArgumentException.class, () -> h.addPilot(31, 0, 0));
        CHECKS.due("26 limit", UnsupportedOperationException.class, () -> h.addPilot(1, 0, 0));
        CHECKS.due("26 denial 1", 1, h::denial);
        CHECKS.due("26 detail", 6, h::denialDetail);
        CHECKS.due("27 above", IndexOutOfBoundsException.class, () -> h.removePilot(6));
        CHECKS.due("27 below", IndexOutOfBoundsException.class, () -> h.removePilot(-1));
        CHECKS.due("27", 5, () -> h.removePilot(1));
        CHECKS.due("27 later ones move", true, () -> h.isOnDuty(1, 2));
        CHECKS.due("27 earlier ones stay", true, () -> h.isOnDuty(0, 0));
        CHECKS.due("27 last one", true, () -> h.isOnDuty(4, 5));
        CHECKS.due("27 index is free", IndexOutOfBoundsException.class, () -> h.isOnDuty(5, 5));
        CHECKS.due("26 again", 5, () -> h.addPilot(1, 9, 9));
        h.removePilot(0);
        CHECKS.due("26 last hour", 5, () -> h.addPilot(30, 23, 23));
        CHECKS.due("27 none", IndexOutOfBoundsException.class, () -> new BalloonHarbour().removePilot(0));
        // The denial with a balloon on the berth that has the pilot's weight as its number.
        BalloonHarbour g = Checks.after("pilot 1 0-0;pilot 1 0-0;pilot 1 0-0",
                "pilot 1 0-0;pilot 1 0-0;pilot 1 0-0", "moor 1 9 9 9");
        CHECKS.due("26 limit", UnsupportedOperationException.class, () -> g.addPilot(1, 0, 0));
        CHECKS.due("26 detail is the limit", 6, g::denialDetail);
    }

    private static void duties() {
        BalloonHarbour h = Checks.after("pilot 5 8-16;pilot 5 22-6;pilot 5 3-3", "pilot 5 0-23;pilot 5 4-3");
        for (int hour = 0; hour < 24; hour++) {
            int t = hour;
            CHECKS.due("29 by day at " + t, t >= 8 && t <= 16, () -> h.isOnDuty(0, t));
            CHECKS.due("29 over midnight at " + t, t >= 22 || t <= 6, () -> h.isOnDuty(1, t));
            CHECKS.due("29 one hour at " + t, t == 3, () -> h.isOnDuty(2, t));
            CHECKS.due("29 all day at " + t, true, () -> h.isOnDuty(3, t));
            CHECKS.due("29 all day from 4 at " + t, true, () -> h.isOnDuty(4, t));
        }
        CHECKS.due("29 pilot before hour", IndexOutOfBoundsException.class, () -> h.isOnDuty(5, 24));
        CHECKS.due("29 pilot below", IndexOutOfBoundsException.class, () -> h.isOnDuty(-1, 0));
        CHECKS.due("29 hour above", IllegalArgumentException.class, () -> h.isOnDuty(0, 24));
        CHECKS.due("29 hour below", IllegalArgumentException.class, () -> h.isOnDuty(0, -1));
    }

    private static void crews() {
        BalloonHarbour h = Checks.after("moor 2 30 5 60;pilot 29 0-0;pilot 30 0-1;pilot 1 1-1");
        CHECKS.due("30 spare lift, not height", true, () -> h.canCrew(0, 2));
        CHECKS.due("30 equal", true, () -> h.canCrew(1, 2));
        CHECKS.due("30 off duty", false, () -> h.canCrew(2, 2));
        h.load(2, 1);
        CHECKS.due("30 equal with ballast", true, () -> h.canCrew(0, 2));
        CHECKS.due("30 too heavy", false, () -> h.canCrew(1, 2));
        CHECKS.due("30 pilot before berth", IndexOutOfBoundsException.class, () -> h.canCrew(3, 1));
        CHECKS.due("30 pilot below", IndexOutOfBoundsException.class, () -> h.canCrew(-1, 2));
        CHECKS.due("30 no balloon", NoSuchElementException.class, () -> h.canCrew(0, 1));
        CHECKS.due("30 no berth", NoSuchElementException.class, () -> h.canCrew(0, 10));
        h.pass(1);
        CHECKS.due("30 duty over", false, () -> h.canCrew(0, 2));
        CHECKS.due("30 duty begun", true, () -> h.canCrew(2, 2));
        h.pass(24);
        CHECKS.due("30 next day", true, () -> h.canCrew(2, 2));
        Checks.run(h, "load 2 20;load 2 20");
        CHECKS.due("30 no spare lift", false, () -> h.canCrew(2, 2));
    }

    private static void mostCrewed() {
        BalloonHarbour h = new BalloonHarbour();
        most(h, "nobody", 0);
        Checks.run(h, "pilot 5 0-0;pilot 10 0-0;pilot 20 0-0");
        most(h, "no balloons", 0);
        Checks.run(h, "moor 0 30 9 60;moor 1 10 9 60;moor 2 5 9 60");
        // Each pilot asks for berth 0 first; the lighter ones must change.
        most(h, "all change", 3);
        h.castOff(2);
        most(h, "two balloons", 2);
        Checks.run(h, "moor 2 4 9 60;moor 3 4 9 60");
        most(h, "too weak", 2);
        Checks.run(h, "moor 9 40 9 60;moor 8 40 9 60");
        most(h, "three pilots", 3);
        h.pass(1);
        most(h, "nobody on duty", 0);
        BalloonHarbour g = Checks.after("pilot 30 0-0;pilot 25 0-0;pilot 20 0-0",
                "pilot 15 0-0;pilot 10 0-0;pilot 5 0-0");
        for (int berth = 0; berth < 10; berth++) {
            g.moor(berth, 3 + 3 * berth, 9, 60);
            // spare lifts 3, 6, 9, 12, .. 30
        }
        most(g, "six of ten", 6);
        g.castOff(9);
        most(g, "30 finds none", 5);
        BalloonHarbour f = Checks.after("moor 0 30 9 60;moor 1 30 9 60", "pilot 30 0-0;pilot 30 0-0;pilot 30 0-0");
        most(f, "more pilots than balloons", 2);
        // Every new pilot is heavier and takes berth 0, so that all those before move one berth on.
        BalloonHarbour e = Checks.after("pilot 5 0-0;pilot 10 0-0;pilot 15 0-0",
                "pilot 20 0-0;pilot 25 0-0;pilot 30 0-0");
        for (int berth = 0; berth < 6; berth++) {
            e.moor(berth, 30 - 5 * berth, 9, 60);
        }
        most(e, "a chain of six", 6);
    }

    private static void most(BalloonHarbour h, String what, int want) {
        CHECKS.due("31 " + what, want, h::mostCrewed);
        CHECKS.due("32 " + what, want, h::mostCrewedBySets);
    }
}
