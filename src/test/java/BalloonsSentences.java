import java.util.NoSuchElementException;

/** Promises 1 to 10: a new object, and balloons. */
final class BalloonsSentences {
    private static final String NO_BALLOON = "Throws `NoSuchElementException` if no balloon is moored there";
    private static final Class<?> BAD_ARGUMENT = IllegalArgumentException.class;
    private static final Class<?> NO_ELEMENT = NoSuchElementException.class;

    private BalloonsSentences() {
    }

    static void tell(Sentences s) {
        newObject(s);
        moor(s);
        moorRefused(s);
        castOff(s);
        balloonCount(s);
        isMoored(s);
        lift(s);
        ballast(s);
        height(s);
        isBursting(s);
        berthByHeight(s);
    }

    private static void newObject(Sentences s) {
        s.section("Promise 1");
        s.test("Creates a harbour without balloons and pilots, without wind, at hour 0.", () -> {
            BalloonHarbour h = new BalloonHarbour();
            s.due("balloons", 0, h::balloonCount);
            s.due("pilots", 0, h::pilotCount);
            s.due("hour", 0, h::hour);
            for (int berth = 0; berth < 10; berth++) {
                int b = berth;
                s.due("berth " + b, false, () -> h.isMoored(b));
            }
            for (int hour = 0; hour < 24; hour++) {
                int t = hour;
                s.due("wind at " + t, 0, () -> h.wind(t));
            }
            s.due("bursts", 0, h::bursts);
            s.due("loaded", 0, h::loaded);
            s.due("aboard", 0, h::aboard);
            s.due("dropped", 0, h::dropped);
            s.due("lost", 0, h::lost);
            s.due("changes", 0, h::undoCount);
            s.due("crewed", 0, h::mostCrewed);
            s.due("crewed by sets", 0, h::mostCrewedBySets);
            s.due("tangles", 0, h::tangles);
            s.due("tangles by merging", 0, h::tanglesByMerging);
            s.due("bursts ahead", 0, h::burstsAhead);
            BalloonHarbour g = Busy.harbour();
            s.due("two objects have nothing in common", State.of(new BalloonHarbour()), () -> State.of(h));
            s.due("nor the other one", State.of(Busy.harbour()), () -> State.of(g));
        });
    }

    private static void moor(Sentences s) {
        s.section("Promise 2");
        s.test("Moors a balloon without bags.", () -> {
            BalloonHarbour h = Checks.after("moor 4 60 40 60;load 4 5;load 4 6;load 4 7;cast 4");
            h.moor(4, 50, 30, 20);
            s.due("moored", true, () -> h.isMoored(4));
            s.due("no bags of the balloon before", 0, () -> h.bagCount(4));
            s.due("no ballast of the balloon before", 0, () -> h.ballast(4));
            s.due("lift", 50, () -> h.lift(4));
            s.due("height", 30, () -> h.height(4));
            s.due("strength", 30f / 20f, () -> h.strain(4));
            s.due("the first bag", 8, () -> h.load(4, 8));
            s.due("its index", 8, () -> h.bagWeight(4, 0));
        });
        s.test("- `berth`: the berth, 0 to 9", () -> {
            s.due("0", 1, () -> new BalloonHarbour().moor(0, 1, 1, 1));
            s.due("9", 1, () -> new BalloonHarbour().moor(9, 1, 1, 1));
            s.needsRange("berth", 0, 9, (h, berth) -> h.moor(berth, 1, 1, 1));
        });
        s.test("- `lift`: the lift, 1 to 99", () -> {
            s.due("1", 1, () -> new BalloonHarbour().moor(3, 1, 40, 60));
            s.due("99", 40, () -> new BalloonHarbour().moor(3, 99, 40, 60));
            s.needsRange("lift", 1, 99, (h, lift) -> h.moor(3, lift, 1, 1));
        });
        s.test("- `string`: the length of the string, 1 to 40", () -> {
            s.due("1", 1, () -> new BalloonHarbour().moor(3, 99, 1, 60));
            s.due("40", 40, () -> new BalloonHarbour().moor(3, 99, 40, 60));
            s.needsRange("string", 1, 40, (h, string) -> h.moor(3, 1, string, 1));
        });
        s.test("- `strength`: the strength, 1 to 60", () -> {
            s.due("1", 7, () -> new BalloonHarbour().moor(3, 7, 40, 1));
            s.due("60", 7, () -> new BalloonHarbour().moor(3, 7, 40, 60));
            s.needsRange("strength", 1, 60, (h, strength) -> h.moor(3, 1, 1, strength));
        });
        s.test("Returns the height of the balloon.", () -> {
            s.due("lift smaller by 1", 29, () -> new BalloonHarbour().moor(3, 29, 30, 60));
            s.due("both equal", 30, () -> new BalloonHarbour().moor(3, 30, 30, 60));
            s.due("string smaller by 1", 30, () -> new BalloonHarbour().moor(3, 31, 30, 60));
            s.due("the strength does not matter", 30, () -> new BalloonHarbour().moor(3, 31, 30, 1));
        });
    }

    private static void moorRefused(Sentences s) {
        s.test("Throws `IllegalArgumentException` if one of the parameters is out of range", () -> {
            s.refused("berth too small", BAD_ARGUMENT, h -> h.moor(-1, 99, 40, 60));
            s.refused("berth too large", BAD_ARGUMENT, h -> h.moor(10, 99, 40, 60));
            s.refused("lift too small", BAD_ARGUMENT, h -> h.moor(1, 0, 40, 60));
            s.refused("lift too large", BAD_ARGUMENT, h -> h.moor(1, 100, 40, 60));
            s.refused("string too small", BAD_ARGUMENT, h -> h.moor(1, 99, 0, 60));
            s.refused("string too large", BAD_ARGUMENT, h -> h.moor(1, 99, 41, 60));
            s.refused("strength too small", BAD_ARGUMENT, h -> h.moor(1, 99, 40, 0));
            s.refused("strength too large", BAD_ARGUMENT, h -> h.moor(1, 99, 40, 61));
            s.refused("all of them", BAD_ARGUMENT, h -> h.moor(-1, 0, 0, 0));
            s.refused("where a balloon is moored", BAD_ARGUMENT, h -> h.moor(Busy.FULL, 99, 40, 61));
        });
        s.test("Throws `UnsupportedOperationException` if denied: 2", () -> {
            s.denied("a balloon with bags", 2, 40, h -> h.moor(Busy.FULL, 1, 1, 1));
            s.denied("the same balloon again", 2, 5, h -> h.moor(Busy.HIGH, 12, 5, 3));
            BalloonHarbour h = Checks.after("moor 5 9 9 9;cast 5;moor 6 50 40 9;wait 1");
            s.due("where a balloon was cast off", 9, () -> h.moor(5, 9, 9, 9));
            s.due("where a balloon burst", 9, () -> h.moor(6, 9, 9, 9));
        });
    }

    private static void castOff(Sentences s) {
        s.section("Promise 3");
        s.test("Casts a balloon off, which is gone then; its bags count as dropped.", () -> {
            BalloonHarbour h = Busy.harbour();
            int dropped = h.dropped();
            h.castOff(Busy.FULL);
            s.due("gone", false, () -> h.isMoored(Busy.FULL));
            s.due("the others stay", 2, h::balloonCount);
            s.due("dropped", dropped + 40, h::dropped);
            s.due("aboard", 22, h::aboard);
            s.due("not lost", 4, h::lost);
            s.due("no burst", 1, h::bursts);
            s.due("gone once only", NO_ELEMENT, () -> h.castOff(Busy.FULL));
            BalloonHarbour g = Checks.after("moor 3 50 40 60;load 3 5;moor 4 9 9 9", "moor 5 50 40 60;load 5 6");
            g.castOff(4);
            s.due("the berth before is not shaken", 1, () -> g.bagCount(3));
            s.due("the berth after is not shaken", 1, () -> g.bagCount(5));
            s.due("no bags, nothing dropped", 0, g::dropped);
        });
        s.test("- `berth`: the berth", () -> {
            for (int berth = 0; berth < 10; berth++) {
                int b = berth;
                BalloonHarbour h = Checks.after("moor " + b + " 9 9 9;load " + b + " 3");
                s.due("berth " + b, 3, () -> h.castOff(b));
            }
        });
        s.test("Returns the ballast that it had.", () -> {
            s.due("six bags", 40, () -> Busy.harbour().castOff(Busy.FULL));
            s.due("two bags", 22, () -> Busy.harbour().castOff(Busy.LOADED));
            s.due("no bags", 0, () -> Busy.harbour().castOff(Busy.HIGH));
        });
        s.test(NO_BALLOON, () -> s.needsBalloon(BalloonHarbour::castOff));
    }

    private static void balloonCount(Sentences s) {
        s.section("Promise 4");
        s.test("Returns the number of balloons.", () -> {
            BalloonHarbour h = new BalloonHarbour();
            s.due("an empty harbour", 0, h::balloonCount);
            for (int berth = 9; berth >= 0; berth--) {
                h.moor(berth, 50, 40, berth == 5 ? 9 : 60);
                s.due("one more", 10 - berth, h::balloonCount);
            }
            Busy.refuse(() -> h.moor(0, 1, 1, 1));
            s.due("one that is not moored", 10, h::balloonCount);
            h.pass(1);
            s.due("one burst", 9, h::balloonCount);
            h.castOff(9);
            s.due("one was cast off", 8, h::balloonCount);
            s.onlyTells(3, BalloonHarbour::balloonCount);
        });
    }

    private static void isMoored(Sentences s) {
        s.section("Promise 5");
        s.test("Returns whether a balloon is moored on a berth.", () -> {
            BalloonHarbour h = Checks.after("moor 0 9 9 9;moor 9 50 40 9");
            for (int berth = 0; berth < 10; berth++) {
                int b = berth;
                s.due("berth " + b, b == 0 || b == 9, () -> h.isMoored(b));
            }
            h.castOff(0);
            h.pass(1);
            s.due("cast off", false, () -> h.isMoored(0));
            s.due("burst", false, () -> h.isMoored(9));
        });
        s.test("- `berth`: the berth, 0 to 9", () -> {
            s.due("0", false, () -> new BalloonHarbour().isMoored(0));
            s.due("9", false, () -> new BalloonHarbour().isMoored(9));
            s.needsRange("berth", 0, 9, BalloonHarbour::isMoored);
        });
        s.test("Returns whether there is one.", () -> {
            s.onlyTells(true, h -> h.isMoored(Busy.HIGH));
            s.onlyTells(false, h -> h.isMoored(Busy.EMPTY));
        });
        s.test("Throws `IllegalArgumentException` if there is no such berth", () -> {
            s.refused("before the first one", BAD_ARGUMENT, h -> h.isMoored(-1));
            s.refused("behind the last one", BAD_ARGUMENT, h -> h.isMoored(10));
        });
    }

    private static void lift(Sentences s) {
        s.section("Promise 6");
        s.test("Returns the lift of a balloon.", () -> {
            BalloonHarbour h = Checks.after("moor 3 99 1 60;load 3 20;moor 4 1 40 60");
            s.due("greater than the string and without the ballast", 99, () -> h.lift(3));
            s.due("the least one", 1, () -> h.lift(4));
            h.pass(1);
            s.due("one hour later", 98, () -> h.lift(3));
        });
        s.test("- `berth`: the berth", () -> everyBerth(s, BalloonHarbour::lift, 50));
        s.test("Returns the lift.", () -> s.onlyTells(99, h -> h.lift(Busy.FULL)));
        s.test(NO_BALLOON, () -> s.needsBalloon(BalloonHarbour::lift));
    }

    /** Each berth has a lift greater by 1 than the one before, and a bag of 10. */
    private static void everyBerth(Sentences s, Sentences.NumberAct call, int first) {
        BalloonHarbour h = new BalloonHarbour();
        for (int berth = 0; berth < 10; berth++) {
            h.moor(berth, 50 + berth, 1, 60);
            h.load(berth, 10 + berth);
        }
        for (int berth = 0; berth < 10; berth++) {
            int b = berth;
            s.due("berth " + b, first + b, () -> call.on(h, b));
        }
    }

    private static void ballast(Sentences s) {
        s.section("Promise 7");
        s.test("Returns the ballast of a balloon.", () -> {
            s.due("no bags", 0, () -> Busy.harbour().ballast(Busy.HIGH));
            s.due("two bags", 22, () -> Busy.harbour().ballast(Busy.LOADED));
            s.due("six bags", 40, () -> Busy.harbour().ballast(Busy.FULL));
            BalloonHarbour h = Checks.after("moor 3 1 1 1;load 3 20;load 3 20;load 3 20;load 3 20",
                    "load 3 20;load 3 20");
            s.due("far greater than the lift", 120, () -> h.ballast(3));
        });
        s.test("- `berth`: the berth", () -> everyBerth(s, BalloonHarbour::ballast, 10));
        s.test("Returns the ballast.", () -> s.onlyTells(40, h -> h.ballast(Busy.FULL)));
        s.test(NO_BALLOON, () -> s.needsBalloon(BalloonHarbour::ballast));
    }

    private static void height(Sentences s) {
        s.section("Promise 8");
        s.test("Returns the height of a balloon.", () -> {
            s.due("the string", 40, () -> Busy.harbour().height(Busy.FULL));
            s.due("the spare lift", 8, () -> Busy.harbour().height(Busy.LOADED));
            BalloonHarbour h = Checks.after("moor 3 10 1 1;load 3 9");
            s.due("both equal", 1, () -> h.height(3));
            h.load(3, 1);
            s.due("no spare lift", 0, () -> h.height(3));
            h.load(3, 20);
            s.due("not below 0", 0, () -> h.height(3));
        });
        s.test("- `berth`: the berth", () -> {
            BalloonHarbour h = new BalloonHarbour();
            for (int berth = 0; berth < 10; berth++) {
                h.moor(berth, 50, 20 + berth, 60);
            }
            for (int berth = 0; berth < 10; berth++) {
                int b = berth;
                s.due("berth " + b, 20 + b, () -> h.height(b));
            }
        });
        s.test("Returns the height.", () -> s.onlyTells(40, h -> h.height(Busy.FULL)));
        s.test(NO_BALLOON, () -> s.needsBalloon(BalloonHarbour::height));
    }

    private static void isBursting(Sentences s) {
        s.section("Promise 9");
        s.test("Returns whether a balloon would burst if balloons burst now: whether its height is greater than its "
                + "strength.", () -> {
            BalloonHarbour h = Checks.after("moor 0 30 20 19;moor 1 30 20 20;moor 2 20 30 19",
                    "moor 9 20 30 20;moor 5 20 30 18;load 5 1");
            s.due("string greater by 1", true, () -> h.isBursting(0));
            s.due("string equal", false, () -> h.isBursting(1));
            s.due("lift greater by 1", true, () -> h.isBursting(2));
            s.due("lift equal", false, () -> h.isBursting(9));
            s.due("spare lift greater by 1", true, () -> h.isBursting(5));
            h.load(5, 1);
            s.due("spare lift equal", false, () -> h.isBursting(5));
            // The lift is less in the next hour, so that it would not burst then.
            BalloonHarbour g = Checks.after("moor 3 10 40 9");
            s.due("now, not in the next hour", true, () -> g.isBursting(3));
            s.due("not in the next hour", 0, g::burstsAhead);
            BalloonHarbour f = Checks.after("moor 3 50 40 9;moor 4 50 40 39;load 4 20");
            s.due("only by its own height, not when it is shaken", false, () -> f.isBursting(4));
        });
        s.test("- `berth`: the berth", () -> {
            BalloonHarbour h = new BalloonHarbour();
            for (int berth = 0; berth < 10; berth++) {
                h.moor(berth, 9, 9, berth % 2 == 0 ? 9 : 8);
            }
            for (int berth = 0; berth < 10; berth++) {
                int b = berth;
                s.due("berth " + b, b % 2 == 1, () -> h.isBursting(b));
            }
        });
        s.test("Returns whether it would.", () -> {
            s.onlyTells(true, h -> h.isBursting(Busy.HIGH));
            s.onlyTells(false, h -> h.isBursting(Busy.FULL));
        });
        s.test(NO_BALLOON, () -> s.needsBalloon(BalloonHarbour::isBursting));
    }

    private static void berthByHeight(Sentences s) {
        s.section("Promise 10");
        s.test("Returns the berth of the balloon at a rank by height, in descending order; for equal heights, the one "
                + "with the greater ballast comes first, then the one on the lower berth.", () -> {
            // heights 11, 12, 12, 12, 12; ballasts 0, 0, 1, 1, 0
            BalloonHarbour h = Checks.after("moor 0 11 40 60;moor 1 12 40 60;moor 5 13 40 60;load 5 1",
                    "moor 8 13 40 60;load 8 1;moor 9 12 40 60");
            ranks(s, h, 5, 8, 1, 9, 0);
            h.load(5, 1);
            ranks(s, h, 8, 1, 9, 5, 0);
            h.castOff(8);
            ranks(s, h, 1, 9, 5, 0);
            BalloonHarbour g = new BalloonHarbour();
            for (int berth = 0; berth < 10; berth++) {
                g.moor(berth, 9, 9, 9);
            }
            ranks(s, g, 0, 1, 2, 3, 4, 5, 6, 7, 8, 9);
            // height 0 each; ballasts 10, 20, 20
            ranks(s, Checks.after("moor 2 9 9 9;load 2 10;moor 3 9 9 9;load 3 20", "moor 7 9 9 9;load 7 20"),
                    3, 7, 2);
        });
        s.test("- `rank`: the rank, from 0", () -> {
            s.due("the first one", Busy.FULL, () -> Busy.harbour().berthByHeight(0));
            s.due("the last one", Busy.HIGH, () -> Busy.harbour().berthByHeight(2));
        });
        s.test("Returns the berth.", () -> s.onlyTells(Busy.LOADED, h -> h.berthByHeight(1)));
        s.test("Throws `NoSuchElementException` if there is no such rank", () -> {
            for (int rank : new int[] {-1, 3, Integer.MIN_VALUE, Integer.MAX_VALUE}) {
                s.refused("rank " + rank, NO_ELEMENT, h -> h.berthByHeight(rank));
            }
            s.due("no balloons", NO_ELEMENT, () -> new BalloonHarbour().berthByHeight(0));
        });
    }

    private static void ranks(Sentences s, BalloonHarbour h, int... berths) {
        for (int rank = 0; rank < berths.length; rank++) {
            int r = rank;
            s.due("rank " + r, berths[r], () -> h.berthByHeight(r));
        }
        s.due("behind the last rank", NO_ELEMENT, () -> h.berthByHeight(berths.length));
    }
}
