/** Promises 19 to 25: winds, tangles and calms. */
final class WindsSentences {
    private static final String STRENGTH = "- `strength`: the strength, 0 to 9";
    private static final String CALM_HOURS = "Returns the number of hours, 0 to 24.";
    private static final String NO_STRENGTH = "Throws `IllegalArgumentException` if the strength is out of range";
    private static final String HOUR = "- `hour`: the hour of the day, 0 to 23";
    private static final Class<?> BAD_ARGUMENT = IllegalArgumentException.class;
    private static final Class<?> DENIED = UnsupportedOperationException.class;

    /** tangles, tanglesByMerging or another call without numbers. */
    private interface Pairs {
        int of(BalloonHarbour h);
    }

    /** longestCalm or longestCalmByTrying. */
    private interface Calm {
        int of(BalloonHarbour h, int strength);
    }

    private WindsSentences() {
    }

    static void tell(Sentences s) {
        setWind(s);
        wind(s);
        top(s);
        tangles(s);
        longestCalm(s);
    }

    private static void setWind(Sentences s) {
        s.section("Promise 19");
        s.test("Sets the wind of an hour of the day.", () -> {
            BalloonHarbour h = Busy.harbour();
            h.setWind(5, -7);
            s.due("the hour", -7, () -> h.wind(5));
            s.due("the hour before", 0, () -> h.wind(4));
            s.due("the hour after", 0, () -> h.wind(6));
            s.due("another hour", 9, () -> h.wind(23));
            h.pass(24);
            s.due("it stays for the next day", -7, () -> h.wind(5));
        });
        s.test(HOUR, () -> {
            s.due("0", 0, () -> new BalloonHarbour().setWind(0, 1));
            s.due("23", 0, () -> new BalloonHarbour().setWind(23, 1));
            s.needsRange("hour", 0, 23, (h, hour) -> h.setWind(hour, 1));
        });
        s.test("- `wind`: the wind, -9 to 9", () -> {
            s.due("-9", 0, () -> new BalloonHarbour().setWind(7, -9));
            s.due("9", 0, () -> new BalloonHarbour().setWind(7, 9));
            s.needsRange("wind", -9, 9, (h, wind) -> h.setWind(7, wind));
        });
        s.test("Returns the wind before.", () -> {
            BalloonHarbour h = new BalloonHarbour();
            s.due("initially", 0, () -> h.setWind(0, -9));
            s.due("-9", -9, () -> h.setWind(0, 9));
            s.due("9", 9, () -> h.setWind(0, 0));
            s.due("0", 0, () -> h.setWind(0, 1));
        });
        s.test("Throws `IllegalArgumentException` if the hour or the wind is out of range", () -> {
            s.refused("hour too small", BAD_ARGUMENT, h -> h.setWind(-1, 0));
            s.refused("hour too large", BAD_ARGUMENT, h -> h.setWind(24, 9));
            s.refused("wind too small", BAD_ARGUMENT, h -> h.setWind(1, -10));
            s.refused("wind too large", BAD_ARGUMENT, h -> h.setWind(1, 10));
            s.refused("both", BAD_ARGUMENT, h -> h.setWind(24, 10));
        });
        s.test("Throws `UnsupportedOperationException` if denied: 5", () -> {
            s.denied("the present wind", 5, 4, h -> h.setWind(1, 4));
            s.denied("a wind back", 5, -2, h -> h.setWind(2, -2));
            s.denied("no wind", 5, 0, h -> h.setWind(0, 0));
            BalloonHarbour h = Busy.harbour();
            s.due("the wind with another sign", -2, () -> h.setWind(2, 2));
            s.due("the present one now", DENIED, () -> h.setWind(2, 2));
        });
    }

    private static void wind(Sentences s) {
        s.section("Promise 20");
        s.test("Returns the wind of an hour of the day.", () -> {
            BalloonHarbour h = new BalloonHarbour();
            for (int hour = 0; hour < 24; hour++) {
                h.setWind(hour, hour < 9 ? -9 + hour : hour % 9 + 1);
            }
            for (int hour = 0; hour < 24; hour++) {
                int t = hour;
                s.due("hour " + t, t < 9 ? -9 + t : t % 9 + 1, () -> h.wind(t));
            }
            h.pass(5);
            s.due("whatever the present hour is", -9, () -> h.wind(0));
        });
        s.test(HOUR, () -> {
            s.due("0", 0, () -> Busy.harbour().wind(0));
            s.due("23", 9, () -> Busy.harbour().wind(23));
            s.needsRange("hour", 0, 23, BalloonHarbour::wind);
        });
        s.test("Returns the wind.", () -> s.onlyTells(-2, h -> h.wind(2)));
        s.test("Throws `IllegalArgumentException` if there is no such hour", () -> {
            s.refused("too small", BAD_ARGUMENT, h -> h.wind(-1));
            s.refused("too large", BAD_ARGUMENT, h -> h.wind(24));
            BalloonHarbour h = Checks.after("wait 30");
            s.due("an hour that has passed, but not of the day", BAD_ARGUMENT, () -> h.wind(30));
        });
    }

    private static void top(Sentences s) {
        s.section("Promise 21");
        s.test("Returns the top of a balloon.", () -> {
            s.due("first berth", 160, () -> Busy.harbour().top(Busy.FULL));
            s.due("height by spare lift", 52, () -> Busy.harbour().top(Busy.LOADED));
            s.due("last berth", 110, () -> Busy.harbour().top(Busy.HIGH));
        });
        s.test("- `berth`: the berth", () -> {
            BalloonHarbour h = Checks.after("wind 0=9");
            for (int berth = 0; berth < 10; berth++) {
                h.moor(berth, 1 + berth, 40, 60);
            }
            for (int berth = 0; berth < 10; berth++) {
                int b = berth;
                s.due("berth " + b, 10 * b + 9 * (1 + b), () -> h.top(b));
            }
        });
        s.test("Returns the top, which can be negative.", () -> {
            BalloonHarbour h = Checks.after("moor 0 99 40 60;moor 1 10 40 60;moor 2 3 40 60;wind 0=-1");
            s.due("negative", -40, () -> h.top(0));
            s.due("0", 0, () -> h.top(1));
            s.due("positive", 17, () -> h.top(2));
            h.setWind(0, -9);
            s.due("the least one", -360, () -> h.top(0));
            s.onlyTells(160, busy -> busy.top(Busy.FULL));
        });
        s.test("Throws `NoSuchElementException` if no balloon is moored there",
                () -> s.needsBalloon(BalloonHarbour::top));
    }

    private static void tangles(Sentences s) {
        s.section("Promise 22");
        s.test("Returns the number of pairs of balloons whose strings are tangled, found by looking at all pairs.",
                () -> pairs(s, BalloonHarbour::tangles));
        s.test("Returns the number of pairs.", () -> s.onlyTells(2, BalloonHarbour::tangles));
        s.section("Promise 23");
        s.test("Returns the same number as tangles, found by merging sorted halves of the tops.", () -> {
            pairs(s, BalloonHarbour::tanglesByMerging);
            for (int round = 0; round < 200; round++) {
                BalloonHarbour h = new BalloonHarbour();
                h.setWind(0, round % 9 + 1);
                for (int berth = 0; berth < 10; berth++) {
                    if ((round * 37 >> berth % 7 & 1) == 0) {
                        h.moor(berth, 1 + (round * 13 + berth * berth * 7) % 40, 40, 60);
                    }
                }
                s.due("as tangles, round " + round, h.tangles(), h::tanglesByMerging);
            }
        });
        s.test("Returns the number of pairs.", () -> s.onlyTells(2, BalloonHarbour::tanglesByMerging));
    }

    private static void pairs(Sentences s, Pairs call) {
        BalloonHarbour h = new BalloonHarbour();
        s.due("no balloons", 0, () -> call.of(h));
        h.setWind(0, 9);
        int[] pairs = {0, 1, 3, 6, 10, 15, 21, 28, 36, 45};
        for (int berth = 0; berth < 10; berth++) {
            // Tops from 270 on, each less by 17.
            h.moor(berth, 30 - 3 * berth, 40, 60);
            s.due((berth + 1) + " balloons, all tangled", pairs[berth], () -> call.of(h));
        }
        h.setWind(0, -9);
        s.due("none of ten", 0, () -> call.of(h));
        h.setWind(0, 0);
        s.due("without wind", 0, () -> call.of(h));
        // Tops 20 each.
        BalloonHarbour g = Checks.after("moor 0 20 40 60;moor 1 10 40 60;wind 0=1");
        s.due("equal tops", 0, () -> call.of(g));
        g.castOff(1);
        g.moor(1, 9, 40, 60);
        s.due("greater by 1", 1, () -> call.of(g));
        // Tops 30, 15, 25 and 35: 0 with 3 and with 5.
        BalloonHarbour f = Checks.after("moor 0 30 40 60;moor 1 5 40 60;moor 2 5 40 60;moor 3 5 40 60", "wind 0=1");
        s.due("not only neighbours", 2, () -> call.of(f));
        f.pass(1);
        s.due("the present wind only", 0, () -> call.of(f));
    }

    private static void longestCalm(Sentences s) {
        s.section("Promise 24");
        s.test("Returns the length of the longest calm up to a strength of wind, found by going through the hours of "
                + "two days.", () -> calms(s, BalloonHarbour::longestCalm));
        s.test(STRENGTH, () -> strengths(s, BalloonHarbour::longestCalm));
        s.test(CALM_HOURS, () -> hours(s, BalloonHarbour::longestCalm));
        s.test(NO_STRENGTH, () -> noStrength(s, BalloonHarbour::longestCalm));
        s.section("Promise 25");
        s.test("Returns the same length as longestCalm, found by trying all beginnings and lengths.", () -> {
            calms(s, BalloonHarbour::longestCalmByTrying);
            for (int round = 0; round < 30; round++) {
                BalloonHarbour h = new BalloonHarbour();
                for (int hour = 0; hour < 24; hour++) {
                    int wind = (round * 7 + hour * hour * (round % 5 + 1)) % 19 - 9;
                    if (wind != 0) {
                        h.setWind(hour, wind);
                    }
                }
                for (int strength = 0; strength <= 9; strength++) {
                    int t = strength;
                    s.due("as longestCalm, round " + round, h.longestCalm(t), () -> h.longestCalmByTrying(t));
                }
            }
        });
        s.test(STRENGTH, () -> strengths(s, BalloonHarbour::longestCalmByTrying));
        s.test(CALM_HOURS, () -> hours(s, BalloonHarbour::longestCalmByTrying));
        s.test(NO_STRENGTH, () -> noStrength(s, BalloonHarbour::longestCalmByTrying));
    }

    private static void calms(Sentences s, Calm call) {
        BalloonHarbour h = Checks.after("wind 6=9;wind 16=-4;wind 23=-5");
        // 7 to 15, 17 to 22, 0 to 5
        s.due("in the middle of the day", 9, () -> call.of(h, 3));
        s.due("7 to 22", 16, () -> call.of(h, 4));
        s.due("7 to 5 over midnight", 23, () -> call.of(h, 8));
        s.due("all hours", 24, () -> call.of(h, 9));
        h.setWind(23, 0);
        s.due("17 to 5 over midnight", 13, () -> call.of(h, 0));
        BalloonHarbour g = Checks.after("wind 0=1;wind 5=1;wind 10=1;wind 15=1;wind 20=1");
        s.due("equal ones", 4, () -> call.of(g, 0));
        s.due("the first hour", 12, () -> call.of(Checks.after("wind 12=1;wind 23=1"), 0));
        s.due("the last hour", 12, () -> call.of(Checks.after("wind 0=1;wind 11=1"), 0));
    }

    private static void strengths(Sentences s, Calm call) {
        BalloonHarbour h = Checks.after("wind 3=1;wind 12=9;wind 18=-1");
        s.due("0", 8, () -> call.of(h, 0));
        s.due("1", 23, () -> call.of(h, 1));
        s.due("8", 23, () -> call.of(h, 8));
        s.due("9", 24, () -> call.of(h, 9));
        s.needsRange("strength", 0, 9, call::of);
    }

    private static void hours(Sentences s, Calm call) {
        BalloonHarbour h = new BalloonHarbour();
        s.due("24 without any wind", 24, () -> call.of(h, 0));
        for (int hour = 0; hour < 23; hour++) {
            int left = 23 - hour;
            h.setWind(hour, hour % 2 == 0 ? 5 : -5);
            s.due("hours left", left, () -> call.of(h, 4));
        }
        h.setWind(23, 5);
        s.due("0 as every wind is stronger", 0, () -> call.of(h, 4));
        s.due("24 as none is stronger", 24, () -> call.of(h, 5));
        s.onlyTells(21, busy -> call.of(busy, 3));
    }

    private static void noStrength(Sentences s, Calm call) {
        s.refused("too small", BAD_ARGUMENT, h -> call.of(h, -1));
        s.refused("too large", BAD_ARGUMENT, h -> call.of(h, 10));
    }
}
