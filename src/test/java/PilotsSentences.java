import java.util.NoSuchElementException;

/** Promises 26 to 32: pilots. */
final class PilotsSentences {
    private static final String PILOT = "- `pilot`: the index of the pilot";
    private static final String NO_PILOT = "Throws `IndexOutOfBoundsException` if there is no such pilot";
    private static final Class<?> BAD_ARGUMENT = IllegalArgumentException.class;
    private static final Class<?> BAD_INDEX = IndexOutOfBoundsException.class;
    private static final Class<?> DENIED = UnsupportedOperationException.class;
    private static final Class<?> NO_ELEMENT = NoSuchElementException.class;

    /** mostCrewed or mostCrewedBySets. */
    private interface Crewed {
        int of(BalloonHarbour h);
    }

    private PilotsSentences() {
    }

    static void tell(Sentences s) {
        addPilot(s);
        removePilot(s);
        pilotCount(s);
        isOnDuty(s);
        canCrew(s);
        mostCrewed(s);
    }

    private static void addPilot(Sentences s) {
        s.section("Promise 26");
        s.test("Adds a pilot.", () -> {
            BalloonHarbour h = Checks.after("moor 3 20 40 60");
            h.addPilot(20, 0, 1);
            s.due("pilots", 1, h::pilotCount);
            s.due("duty", true, () -> h.isOnDuty(0, 1));
            s.due("weight", true, () -> h.canCrew(0, 3));
            h.load(3, 1);
            s.due("weight, not less", false, () -> h.canCrew(0, 3));
        });
        s.test("- `weight`: the weight, 1 to 30", () -> {
            s.due("1", 0, () -> new BalloonHarbour().addPilot(1, 0, 0));
            s.due("30", 0, () -> new BalloonHarbour().addPilot(30, 0, 0));
            s.needsRange("weight", 1, 30, (h, weight) -> h.addPilot(weight, 0, 0));
        });
        s.test("- `from`: the first hour of the day of the duty, 0 to 23", () -> {
            BalloonHarbour h = new BalloonHarbour();
            s.due("0", 0, () -> h.addPilot(1, 0, 5));
            s.due("23", 1, () -> h.addPilot(1, 23, 5));
            s.due("0 is the first hour", true, () -> h.isOnDuty(0, 0));
            s.due("23 is before it", false, () -> h.isOnDuty(0, 23));
            s.due("23 is the first hour", true, () -> h.isOnDuty(1, 23));
            s.due("22 is before it", false, () -> h.isOnDuty(1, 22));
            s.needsRange("from", 0, 23, (busy, from) -> busy.addPilot(1, from, 0));
        });
        s.test("- `to`: the last hour of the day of the duty, 0 to 23", () -> {
            BalloonHarbour h = new BalloonHarbour();
            s.due("0", 0, () -> h.addPilot(1, 5, 0));
            s.due("23", 1, () -> h.addPilot(1, 5, 23));
            s.due("0 is the last hour", true, () -> h.isOnDuty(0, 0));
            s.due("1 is behind it", false, () -> h.isOnDuty(0, 1));
            s.due("23 is the last hour", true, () -> h.isOnDuty(1, 23));
            s.due("0 is behind it", false, () -> h.isOnDuty(1, 0));
            s.needsRange("to", 0, 23, (busy, to) -> busy.addPilot(1, 0, to));
        });
        s.test("Returns the index of the pilot.", () -> {
            BalloonHarbour h = new BalloonHarbour();
            for (int pilot = 0; pilot < 6; pilot++) {
                int p = pilot;
                s.due("pilot " + p, p, () -> h.addPilot(1, 0, 0));
            }
            h.removePilot(2);
            s.due("after one has left", 5, () -> h.addPilot(1, 0, 0));
        });
        s.test("Throws `IllegalArgumentException` if one of the parameters is out of range", () -> {
            // The busy harbour has 6 pilots: the range comes before the denial.
            s.refused("weight too small", BAD_ARGUMENT, h -> h.addPilot(0, 0, 0));
            s.refused("weight too large", BAD_ARGUMENT, h -> h.addPilot(31, 0, 0));
            s.refused("from too small", BAD_ARGUMENT, h -> h.addPilot(1, -1, 0));
            s.refused("from too large", BAD_ARGUMENT, h -> h.addPilot(1, 24, 0));
            s.refused("to too small", BAD_ARGUMENT, h -> h.addPilot(1, 0, -1));
            s.refused("to too large", BAD_ARGUMENT, h -> h.addPilot(1, 0, 24));
            BalloonHarbour h = new BalloonHarbour();
            s.due("weight too large, no pilots", BAD_ARGUMENT, () -> h.addPilot(31, 0, 0));
            s.due("from too large, no pilots", BAD_ARGUMENT, () -> h.addPilot(1, 24, 0));
            s.due("to too large, no pilots", BAD_ARGUMENT, () -> h.addPilot(1, 0, 24));
            s.due("none has come", 0, h::pilotCount);
        });
        s.test("Throws `UnsupportedOperationException` if denied: 1 (6 pilots)", () -> {
            s.denied("6 pilots", 1, 6, h -> h.addPilot(1, 0, 0));
            BalloonHarbour h = Busy.harbour();
            h.removePilot(0);
            s.due("5 pilots", 5, () -> h.addPilot(1, 0, 0));
            s.due("6 pilots again", DENIED, () -> h.addPilot(1, 0, 0));
        });
    }

    private static void removePilot(Sentences s) {
        s.section("Promise 27");
        s.test("Lets a pilot leave.", () -> {
            // The pilots of the busy harbour have their duties at 22-6, 0-23, 1-1, 2-3, 8-16 and 0-1.
            BalloonHarbour h = Busy.harbour();
            h.removePilot(1);
            s.due("the one before stays", true, () -> h.isOnDuty(0, 22));
            s.due("the one after has its index", true, () -> h.isOnDuty(1, 1));
            s.due("and its duty", false, () -> h.isOnDuty(1, 22));
            s.due("the last one", true, () -> h.isOnDuty(4, 0));
            s.due("behind the last one", BAD_INDEX, () -> h.isOnDuty(5, 0));
            s.due("the weight of the one before", true, () -> h.canCrew(0, Busy.LOADED));
            s.due("the weight of the one after", false, () -> h.canCrew(1, Busy.LOADED));
        });
        s.test(PILOT, () -> {
            s.due("the first one", 5, () -> Busy.harbour().removePilot(0));
            s.due("the sixth one", 5, () -> Busy.harbour().removePilot(5));
        });
        s.test("Returns the number of pilots afterwards.", () -> {
            BalloonHarbour h = Busy.harbour();
            for (int left = 5; left >= 0; left--) {
                s.due("one less", left, () -> h.removePilot(0));
            }
        });
        s.test(NO_PILOT, () -> {
            s.needsIndex("pilot", 6, BalloonHarbour::removePilot);
            s.due("no pilots", BAD_INDEX, () -> new BalloonHarbour().removePilot(0));
        });
    }

    private static void pilotCount(Sentences s) {
        s.section("Promise 28");
        s.test("Returns the number of pilots.", () -> {
            BalloonHarbour h = new BalloonHarbour();
            s.due("none", 0, h::pilotCount);
            for (int count = 1; count <= 6; count++) {
                h.addPilot(1, 0, 0);
                s.due("one more", count, h::pilotCount);
            }
            Busy.refuse(() -> h.addPilot(1, 0, 0));
            s.due("a seventh one", 6, h::pilotCount);
            h.removePilot(5);
            s.due("one less", 5, h::pilotCount);
            s.onlyTells(6, BalloonHarbour::pilotCount);
        });
    }

    private static void isOnDuty(Sentences s) {
        s.section("Promise 29");
        s.test("Returns whether a pilot is on duty in an hour of the day.", () -> {
            BalloonHarbour h = Checks.after("pilot 30 8-16;pilot 30 16-8;pilot 30 23-23;pilot 30 0-0");
            for (int hour = 0; hour < 24; hour++) {
                int t = hour;
                s.due("8-16 at " + t, t >= 8 && t <= 16, () -> h.isOnDuty(0, t));
                s.due("16-8 at " + t, t >= 16 || t <= 8, () -> h.isOnDuty(1, t));
                s.due("23-23 at " + t, t == 23, () -> h.isOnDuty(2, t));
                s.due("0-0 at " + t, t == 0, () -> h.isOnDuty(3, t));
            }
            h.pass(3);
            s.due("whatever the present hour is", true, () -> h.isOnDuty(0, 8));
            s.due("whatever the present hour is", false, () -> h.isOnDuty(0, 3));
        });
        s.test(PILOT, () -> {
            s.due("the first one", true, () -> Busy.harbour().isOnDuty(0, 22));
            s.due("the sixth one", false, () -> Busy.harbour().isOnDuty(5, 22));
        });
        s.test("- `hour`: the hour of the day, 0 to 23", () -> {
            s.due("0", true, () -> Busy.harbour().isOnDuty(1, 0));
            s.due("23", true, () -> Busy.harbour().isOnDuty(1, 23));
            s.needsRange("hour", 0, 23, (h, hour) -> h.isOnDuty(0, hour));
        });
        s.test("Returns whether the pilot is on duty.", () -> {
            s.onlyTells(true, h -> h.isOnDuty(0, 5));
            s.onlyTells(false, h -> h.isOnDuty(0, 7));
        });
        s.test(NO_PILOT, () -> {
            s.needsIndex("pilot", 6, (h, pilot) -> h.isOnDuty(pilot, 0));
            s.needsIndex("pilot, at no hour,", 6, (h, pilot) -> h.isOnDuty(pilot, 24));
            s.due("no pilots", BAD_INDEX, () -> new BalloonHarbour().isOnDuty(0, 0));
        });
        s.test("Throws `IllegalArgumentException` if there is no such hour", () -> {
            s.refused("too small", BAD_ARGUMENT, h -> h.isOnDuty(1, -1));
            s.refused("too large", BAD_ARGUMENT, h -> h.isOnDuty(1, 24));
        });
    }

    private static void canCrew(Sentences s) {
        s.section("Promise 30");
        s.test("Returns whether a pilot can crew a balloon in the present hour.", () -> {
            BalloonHarbour h = Checks.after("moor 3 30 1 60;pilot 30 0-0;pilot 29 0-1", "pilot 1 1-1;pilot 28 23-1");
            s.due("weight equal to the spare lift", true, () -> h.canCrew(0, 3));
            s.due("over midnight", true, () -> h.canCrew(3, 3));
            s.due("not yet on duty", false, () -> h.canCrew(2, 3));
            h.load(3, 1);
            s.due("weight greater by 1", false, () -> h.canCrew(0, 3));
            s.due("weight equal to the spare lift with a bag", true, () -> h.canCrew(1, 3));
            h.pass(1);
            s.due("the lift is less in the next hour", false, () -> h.canCrew(1, 3));
            s.due("on duty now", true, () -> h.canCrew(2, 3));
            s.due("on duty still", true, () -> h.canCrew(3, 3));
            h.pass(1);
            s.due("not on duty any more", false, () -> h.canCrew(2, 3));
            s.due("not on duty any more", false, () -> h.canCrew(3, 3));
        });
        s.test(PILOT, () -> {
            // On duty in hour 1 are 0, 1, 2 and 5 with weights of 5, 30, 10 and 1.
            boolean[] can = {true, false, false, false, false, true};
            for (int pilot = 0; pilot < 6; pilot++) {
                int p = pilot;
                s.due("pilot " + p, can[p], () -> Busy.harbour().canCrew(p, Busy.LOADED));
            }
        });
        s.test("- `berth`: the berth", () -> {
            BalloonHarbour h = Checks.after("pilot 10 0-0");
            for (int berth = 0; berth < 10; berth++) {
                h.moor(berth, 9 + berth % 2, 1, 1);
            }
            for (int berth = 0; berth < 10; berth++) {
                int b = berth;
                s.due("berth " + b, b % 2 == 1, () -> h.canCrew(0, b));
            }
        });
        s.test("Returns whether the pilot can.", () -> {
            s.onlyTells(true, h -> h.canCrew(0, Busy.FULL));
            s.onlyTells(false, h -> h.canCrew(1, Busy.LOADED));
        });
        s.test(NO_PILOT, () -> {
            s.needsIndex("pilot", 6, (h, pilot) -> h.canCrew(pilot, Busy.FULL));
            s.needsIndex("pilot, no balloon,", 6, (h, pilot) -> h.canCrew(pilot, Busy.EMPTY));
            s.needsIndex("pilot, no berth,", 6, (h, pilot) -> h.canCrew(pilot, -1));
        });
        s.test("Throws `NoSuchElementException` if no balloon is moored there", () -> {
            BalloonHarbour h = Checks.after("pilot 1 0-23");
            for (int berth = -1; berth <= 10; berth++) {
                int b = berth;
                s.due("berth " + b, NO_ELEMENT, () -> h.canCrew(0, b));
            }
            for (int berth : new int[] {Busy.EMPTY, Busy.CAST_OFF, Busy.BURST, -1, 10, Integer.MAX_VALUE}) {
                s.refused("berth " + berth, NO_ELEMENT, busy -> busy.canCrew(0, berth));
                s.refused("a pilot off duty, berth " + berth, NO_ELEMENT, busy -> busy.canCrew(4, berth));
            }
        });
    }

    private static void mostCrewed(Sentences s) {
        s.section("Promise 31");
        s.test("Returns the greatest number of balloons that can be crewed at the same time in the present hour, found "
                + "by letting pilots change to other balloons.", () -> crewed(s, BalloonHarbour::mostCrewed));
        s.test("Returns the number of balloons.", () -> s.onlyTells(3, BalloonHarbour::mostCrewed));
        s.section("Promise 32");
        s.test("Returns the same number as mostCrewed, found balloon by balloon for all sets of pilots.", () -> {
            crewed(s, BalloonHarbour::mostCrewedBySets);
            for (int round = 0; round < 200; round++) {
                BalloonHarbour h = new BalloonHarbour();
                for (int pilot = 0; pilot < round % 7; pilot++) {
                    h.addPilot(1 + (round * 11 + pilot * pilot * 5) % 30, 0, round % 3 == pilot ? 0 : 23);
                }
                for (int berth = 0; berth < 10; berth++) {
                    if ((round * 29 >> berth % 6 & 1) == 0) {
                        h.moor(berth, 1 + (round * 7 + berth * 11) % 32, 40, 60);
                    }
                }
                s.due("as mostCrewed, round " + round, h.mostCrewed(), h::mostCrewedBySets);
            }
        });
        s.test("Returns the number of balloons.", () -> s.onlyTells(3, BalloonHarbour::mostCrewedBySets));
    }

    private static void crewed(Sentences s, Crewed call) {
        BalloonHarbour h = new BalloonHarbour();
        s.due("an empty harbour", 0, () -> call.of(h));
        Checks.run(h, "moor 0 30 1 1;moor 1 20 1 1;moor 9 10 1 1");
        s.due("no pilots", 0, () -> call.of(h));
        Checks.run(h, "pilot 10 0-0;pilot 20 0-0;pilot 30 0-0");
        s.due("each pilot changes for the next one", 3, () -> call.of(h));
        h.load(9, 1);
        s.due("one balloon is too weak by 1", 2, () -> call.of(h));
        h.drop(9, 0);
        h.addPilot(1, 0, 0);
        s.due("more pilots than balloons", 3, () -> call.of(h));
        h.castOff(0);
        s.due("one balloon less", 2, () -> call.of(h));
        h.pass(1);
        s.due("nobody on duty", 0, () -> call.of(h));
        // Six pilots, each heavier than the one before, and balloons from the strongest to the weakest one.
        BalloonHarbour g = Checks.after("pilot 5 0-0;pilot 10 0-0;pilot 15 0-0",
                "pilot 20 0-0;pilot 25 0-0;pilot 30 0-0");
        for (int berth = 0; berth < 6; berth++) {
            int want = berth + 1;
            g.moor(berth, 30 - 5 * berth, 1, 60);
            s.due("all before change: " + want, want, () -> call.of(g));
        }
        for (int berth = 6; berth < 10; berth++) {
            g.moor(berth, 99, 1, 60);
        }
        s.due("ten balloons, six pilots", 6, () -> call.of(g));
        BalloonHarbour f = Checks.after("pilot 30 0-0;pilot 30 1-1;pilot 30 23-23", "moor 0 99 1 1;moor 1 99 1 1");
        s.due("one of three on duty", 1, () -> call.of(f));
        // Two pilots want the same strong balloon; the others are too weak.
        BalloonHarbour e = Checks.after("pilot 9 0-0;pilot 9 0-0", "moor 0 8 1 1;moor 5 9 1 1;moor 9 8 1 1");
        s.due("two pilots, one strong balloon", 1, () -> call.of(e));
    }
}
