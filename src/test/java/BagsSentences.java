import java.util.NoSuchElementException;

/** Promises 11 to 18: bags. */
final class BagsSentences {
    private static final String NO_BALLOON = "Throws `NoSuchElementException` if no balloon is moored there";
    private static final String NO_SET =
            "Throws `NoSuchElementException` if no balloon is moored there, or there is no drop set";
    private static final String NO_HEIGHT = "Throws `IllegalArgumentException` if the height is out of range";
    private static final String BERTH = "- `berth`: the berth";
    private static final String BAG = "- `bag`: the index of the bag";
    private static final String HEIGHT = "- `height`: the height, 1 to 40";
    private static final Class<?> BAD_ARGUMENT = IllegalArgumentException.class;
    private static final Class<?> BAD_INDEX = IndexOutOfBoundsException.class;
    private static final Class<?> DENIED = UnsupportedOperationException.class;
    private static final Class<?> NO_ELEMENT = NoSuchElementException.class;

    /** fewestDrops, fewestDropsBySets or dropWeight. */
    private interface DropCall {
        int of(BalloonHarbour h, int berth, int height);
    }

    private BagsSentences() {
    }

    static void tell(Sentences s) {
        load(s);
        drop(s);
        rise(s);
        riseRefused(s);
        bagCount(s);
        bagWeight(s);
        fewestDrops(s);
        fewestDropsBySets(s);
        dropWeight(s);
    }

    private static BalloonHarbour allBerths() {
        BalloonHarbour h = new BalloonHarbour();
        for (int berth = 0; berth < 10; berth++) {
            h.moor(berth, 30, 40, 60);
            h.load(berth, 10 + berth);
        }
        return h;
    }

    /** A call with a berth on ten balloons of lift 30, each with a bag greater by 1 than the one before. */
    private static void everyBerth(Sentences s, Sentences.NumberAct call, int first, int step) {
        for (int berth = 0; berth < 10; berth++) {
            int b = berth;
            s.due("berth " + b, first + step * b, () -> call.on(allBerths(), b));
        }
    }

    private static void load(Sentences s) {
        s.section("Promise 11");
        s.test("Loads a bag.", () -> {
            BalloonHarbour h = Busy.harbour();
            int loaded = h.loaded();
            h.load(Busy.LOADED, 3);
            s.due("bags", 3, () -> h.bagCount(Busy.LOADED));
            s.due("the new bag is the last one", 3, () -> h.bagWeight(Busy.LOADED, 2));
            s.due("the first bag stays", 7, () -> h.bagWeight(Busy.LOADED, 0));
            s.due("height", 5, () -> h.height(Busy.LOADED));
            s.due("loaded", loaded + 3, h::loaded);
            s.due("aboard", 65, h::aboard);
            s.due("the other balloons have no more bags", 0, () -> h.bagCount(Busy.HIGH));
        });
        s.test(BERTH, () -> everyBerth(s, (h, berth) -> h.load(berth, 1), 11, 1));
        s.test("- `weight`: the weight, 1 to 20", () -> {
            s.due("1", 23, () -> Busy.harbour().load(Busy.LOADED, 1));
            s.due("20", 42, () -> Busy.harbour().load(Busy.LOADED, 20));
            s.needsRange("weight", 1, 20, (h, weight) -> h.load(Busy.LOADED, weight));
        });
        s.test("Returns the ballast afterwards.", () -> {
            BalloonHarbour h = Checks.after("moor 3 5 9 9");
            for (int bag = 1; bag <= 6; bag++) {
                s.due("bag " + bag, 20 * bag, () -> h.load(3, 20));
            }
        });
        s.test(NO_BALLOON, () -> {
            s.needsBalloon((h, berth) -> h.load(berth, 1));
            s.needsBalloon((h, berth) -> h.load(berth, 0));
        });
        s.test("Throws `IllegalArgumentException` if the weight is out of range", () -> {
            s.refused("too small", BAD_ARGUMENT, h -> h.load(Busy.LOADED, 0));
            s.refused("too large", BAD_ARGUMENT, h -> h.load(Busy.LOADED, 21));
            s.refused("of a seventh bag", BAD_ARGUMENT, h -> h.load(Busy.FULL, 21));
            s.refused("of a seventh bag", BAD_ARGUMENT, h -> h.load(Busy.FULL, 0));
        });
        s.test("Throws `UnsupportedOperationException` if denied: 1 (6 bags)", () -> {
            s.denied("6 bags", 1, 6, h -> h.load(Busy.FULL, 1));
            BalloonHarbour h = Busy.harbour();
            h.drop(Busy.FULL, 3);
            s.due("5 bags", 36, () -> h.load(Busy.FULL, 1));
            s.due("6 bags again", DENIED, () -> h.load(Busy.FULL, 1));
        });
    }

    private static void drop(Sentences s) {
        s.section("Promise 12");
        s.test("Drops a bag.", () -> {
            BalloonHarbour h = Busy.harbour();
            int dropped = h.dropped();
            h.drop(Busy.FULL, 1);
            s.due("bags", 5, () -> h.bagCount(Busy.FULL));
            s.due("the bag before stays", 2, () -> h.bagWeight(Busy.FULL, 0));
            s.due("the bag after has its index", 4, () -> h.bagWeight(Busy.FULL, 1));
            s.due("the last bag", 20, () -> h.bagWeight(Busy.FULL, 4));
            s.due("behind the last bag", BAD_INDEX, () -> h.bagWeight(Busy.FULL, 5));
            s.due("ballast", 37, () -> h.ballast(Busy.FULL));
            s.due("dropped", dropped + 3, h::dropped);
            s.due("not lost", 4, h::lost);
        });
        s.test(BERTH, () -> everyBerth(s, (h, berth) -> h.drop(berth, 0), 10, 1));
        s.test(BAG, () -> {
            s.due("the first one", 2, () -> Busy.harbour().drop(Busy.FULL, 0));
            s.due("the sixth one", 20, () -> Busy.harbour().drop(Busy.FULL, 5));
        });
        s.test("Returns the weight of the bag.", () -> {
            BalloonHarbour h = Busy.harbour();
            s.due("the last of two", 15, () -> h.drop(Busy.LOADED, 1));
            s.due("the only one", 7, () -> h.drop(Busy.LOADED, 0));
            s.due("none left", BAD_INDEX, () -> h.drop(Busy.LOADED, 0));
        });
        s.test(NO_BALLOON, () -> {
            s.needsBalloon((h, berth) -> h.drop(berth, 0));
            s.needsBalloon((h, berth) -> h.drop(berth, -1));
        });
        s.test("Throws `IndexOutOfBoundsException` if there is no such bag", () -> {
            s.needsIndex("six bags, bag", 6, (h, bag) -> h.drop(Busy.FULL, bag));
            s.needsIndex("two bags, bag", 2, (h, bag) -> h.drop(Busy.LOADED, bag));
            s.needsIndex("no bags, bag", 0, (h, bag) -> h.drop(Busy.HIGH, bag));
        });
    }

    private static void rise(Sentences s) {
        s.section("Promise 13");
        s.test("Drops the bags of the best drop set for a height.", () -> {
            // Bags 2, 3, 4, 5, 6 and 20, and the lift 45: the height is 5.
            BalloonHarbour h = Checks.after("moor 3 45 40 60;load 3 2;load 3 3;load 3 4;load 3 5;load 3 6",
                    "load 3 20");
            h.rise(3, 9);
            s.due("the bag of 4", 36, () -> h.ballast(3));
            s.due("5 has its index", 5, () -> h.bagWeight(3, 2));
            s.due("dropped", 4, h::dropped);
            h.rise(3, 35);
            // 26 lacks: 20 and 6.
            s.due("the bags of 6 and 20", 10, () -> h.ballast(3));
            s.due("5 is the last one", 5, () -> h.bagWeight(3, 2));
            s.due("dropped", 30, h::dropped);
            s.due("not lost", 0, h::lost);
            s.due("to the height of the string", 1, () -> h.rise(3, 40));
            s.due("the bag of 5", 5, () -> h.ballast(3));
            s.due("3 is the last one", 3, () -> h.bagWeight(3, 1));
        });
        s.test(BERTH, () -> {
            for (int berth = 0; berth < 10; berth++) {
                int b = berth;
                BalloonHarbour h = allBerths();
                s.due("berth " + b, 1, () -> h.rise(b, 30));
                s.due("its bag", 10 + b, h::dropped);
            }
        });
        s.test(HEIGHT, () -> {
            BalloonHarbour h = Checks.after("moor 3 99 40 60;load 3 20;load 3 20;load 3 20;load 3 20", "load 3 19");
            s.due("height 0", 0, () -> h.height(3));
            s.due("1", 1, () -> h.rise(3, 1));
            s.due("40", 2, () -> h.rise(3, 40));
            s.needsRange("height", 1, 40, (busy, height) -> busy.rise(Busy.LOADED, height));
        });
        s.test("Returns the number of bags that are dropped.", () -> {
            s.due("one", 1, () -> Busy.harbour().rise(Busy.LOADED, 9));
            s.due("the other one", 1, () -> Busy.harbour().rise(Busy.LOADED, 16));
            s.due("the other one, to the height of the string", 1, () -> Busy.harbour().rise(Busy.LOADED, 20));
            BalloonHarbour h = Checks.after("moor 3 21 40 60;load 3 1;load 3 2;load 3 3;load 3 4;load 3 5", "load 3 6");
            s.due("all six", 6, () -> h.rise(3, 21));
            s.due("none left", 0, () -> h.bagCount(3));
        });
    }

    private static void riseRefused(Sentences s) {
        s.test(NO_BALLOON, () -> {
            s.needsBalloon((h, berth) -> h.rise(berth, 1));
            s.needsBalloon((h, berth) -> h.rise(berth, 0));
        });
        s.test(NO_HEIGHT, () -> {
            s.refused("too small", BAD_ARGUMENT, h -> h.rise(Busy.LOADED, 0));
            s.refused("too large", BAD_ARGUMENT, h -> h.rise(Busy.LOADED, 41));
            s.refused("too large where 40 is reached", BAD_ARGUMENT, h -> h.rise(Busy.FULL, 41));
        });
        s.test("Throws `UnsupportedOperationException` if denied: 4, 3", () -> {
            s.denied("the height", 4, 8, h -> h.rise(Busy.LOADED, 8));
            s.denied("less than the height", 4, 8, h -> h.rise(Busy.LOADED, 1));
            s.denied("no bags, the height", 4, 5, h -> h.rise(Busy.HIGH, 5));
            s.denied("no bags, more than the height", 3, 5, h -> h.rise(Busy.HIGH, 6));
            s.denied("more than the string", 3, 20, h -> h.rise(Busy.LOADED, 21));
            s.denied("the greatest height", 3, 20, h -> h.rise(Busy.LOADED, 40));
            BalloonHarbour h = Checks.after("moor 3 9 40 60;load 3 20");
            s.due("more than the lift", DENIED, () -> h.rise(3, 10));
            s.denial(h, 3, 9);
        });
    }

    private static void bagCount(Sentences s) {
        s.section("Promise 14");
        s.test("Returns the number of bags of a balloon.", () -> {
            BalloonHarbour h = Checks.after("moor 3 50 40 60");
            s.due("none", 0, () -> h.bagCount(3));
            for (int bag = 1; bag <= 6; bag++) {
                h.load(3, 1);
                s.due("loaded", bag, () -> h.bagCount(3));
            }
            Busy.refuse(() -> h.load(3, 1));
            s.due("a seventh one", 6, () -> h.bagCount(3));
            h.drop(3, 0);
            s.due("dropped", 5, () -> h.bagCount(3));
        });
        s.test(BERTH, () -> {
            BalloonHarbour h = allBerths();
            for (int berth = 0; berth < 10; berth++) {
                int b = berth;
                h.load(b, 1);
                s.due("berth " + b, 2, () -> h.bagCount(b));
                s.due("last berth", b == 9 ? 2 : 1, () -> h.bagCount(9));
            }
        });
        s.test("Returns the number of bags.", () -> s.onlyTells(6, h -> h.bagCount(Busy.FULL)));
        s.test(NO_BALLOON, () -> s.needsBalloon(BalloonHarbour::bagCount));
    }

    private static void bagWeight(Sentences s) {
        s.section("Promise 15");
        s.test("Returns the weight of a bag.", () -> {
            int[] weights = {2, 3, 4, 5, 6, 20};
            for (int bag = 0; bag < 6; bag++) {
                int b = bag;
                s.due("bag " + b, weights[b], () -> Busy.harbour().bagWeight(Busy.FULL, b));
            }
        });
        s.test(BERTH, () -> everyBerth(s, (h, berth) -> h.bagWeight(berth, 0), 10, 1));
        s.test(BAG, () -> {
            s.due("the first one", 7, () -> Busy.harbour().bagWeight(Busy.LOADED, 0));
            s.due("the last one", 15, () -> Busy.harbour().bagWeight(Busy.LOADED, 1));
        });
        s.test("Returns the weight.", () -> s.onlyTells(20, h -> h.bagWeight(Busy.FULL, 5)));
        s.test(NO_BALLOON, () -> {
            s.needsBalloon((h, berth) -> h.bagWeight(berth, 0));
            s.needsBalloon((h, berth) -> h.bagWeight(berth, -1));
        });
        s.test("Throws `IndexOutOfBoundsException` if there is no such bag", () -> {
            s.needsIndex("six bags, bag", 6, (h, bag) -> h.bagWeight(Busy.FULL, bag));
            s.needsIndex("two bags, bag", 2, (h, bag) -> h.bagWeight(Busy.LOADED, bag));
            s.needsIndex("no bags, bag", 0, (h, bag) -> h.bagWeight(Busy.HIGH, bag));
        });
    }

    private static void fewestDrops(Sentences s) {
        s.section("Promise 16");
        s.test("Returns the number of bags of the best drop set for a height, found by taking the heaviest bags one "
                + "after the other.", () -> fewest(s, BalloonHarbour::fewestDrops));
        s.test(BERTH, () -> everyBerth(s, (h, berth) -> h.fewestDrops(berth, 30), 1, 0));
        s.test(HEIGHT, () -> heights(s, BalloonHarbour::fewestDrops, 1));
        s.test("Returns the number of bags, 0 if the height is reached already.", () -> {
            s.due("the height", 0, () -> Busy.harbour().fewestDrops(Busy.LOADED, 8));
            s.due("1 more than the height", 1, () -> Busy.harbour().fewestDrops(Busy.LOADED, 9));
            s.due("less than the height", 0, () -> Busy.harbour().fewestDrops(Busy.LOADED, 1));
            s.due("the height of the string", 0, () -> Busy.harbour().fewestDrops(Busy.FULL, 40));
            s.due("no bags", 0, () -> Busy.harbour().fewestDrops(Busy.HIGH, 5));
            s.onlyTells(1, h -> h.fewestDrops(Busy.LOADED, 20));
        });
        s.test(NO_HEIGHT, () -> noHeight(s, BalloonHarbour::fewestDrops));
        s.test(NO_SET, () -> noSet(s, BalloonHarbour::fewestDrops));
    }

    /** How many of the bags 4, 9, 1 and 7 go, for each height above 10. */
    private static void fewest(Sentences s, DropCall call) {
        BalloonHarbour h = Checks.after("moor 3 31 40 60;load 3 4;load 3 9;load 3 1;load 3 7");
        for (int lacks = 0; lacks <= 21; lacks++) {
            int l = lacks;
            int want = l == 0 ? 0 : l <= 9 ? 1 : l <= 16 ? 2 : l <= 20 ? 3 : 4;
            s.due("height lacks " + l, want, () -> call.of(h, 3, 10 + l));
        }
        BalloonHarbour g = Checks.after("moor 3 6 40 60;load 3 5;load 3 5;load 3 5;load 3 5;load 3 5", "load 3 5");
        s.due("ballast far above the lift", 5, () -> call.of(g, 3, 1));
        s.due("all six bags", 6, () -> call.of(g, 3, 2));
    }

    /** What the call answers for the least and the greatest height, for each bag of 20 as much as for one. */
    private static void heights(Sentences s, DropCall call, int one) {
        BalloonHarbour h = Checks.after("moor 3 40 40 60;load 3 20;load 3 20;load 3 20;load 3 20", "load 3 20");
        s.due("1 where the height is 0", 4 * one, () -> call.of(h, 3, 1));
        s.due("40 where the height is 0", 5 * one, () -> call.of(h, 3, 40));
        noHeight(s, call);
    }

    private static void noHeight(Sentences s, DropCall call) {
        s.needsRange("height", 1, 40, (h, height) -> call.of(h, Busy.LOADED, height));
        s.needsRange("height where all heights are reached", 1, 40, (h, height) -> call.of(h, Busy.FULL, height));
        s.needsRange("height where no balloon is moored", 1, 40, (h, height) -> call.of(h, Busy.EMPTY, height));
        s.needsRange("height where no berth is", 1, 40, (h, height) -> call.of(h, -1, height));
    }

    private static void noSet(Sentences s, DropCall call) {
        s.needsBalloon((h, berth) -> call.of(h, berth, 1));
        s.needsBalloon((h, berth) -> call.of(h, berth, 40));
        s.refused("1 more than the string", NO_ELEMENT, h -> call.of(h, Busy.LOADED, 21));
        s.refused("the greatest height", NO_ELEMENT, h -> call.of(h, Busy.LOADED, 40));
        s.refused("no bags", NO_ELEMENT, h -> call.of(h, Busy.HIGH, 6));
        BalloonHarbour h = Checks.after("moor 3 9 40 60;load 3 20");
        s.due("1 more than the lift", NO_ELEMENT, () -> call.of(h, 3, 10));
    }

    private static void fewestDropsBySets(Sentences s) {
        s.section("Promise 17");
        s.test("Returns the same number as fewestDrops, found by trying all sets of bags.", () -> {
            fewest(s, BalloonHarbour::fewestDropsBySets);
            for (int round = 0; round < 20; round++) {
                BalloonHarbour h = new BalloonHarbour();
                h.moor(3, 30 + 3 * round, 40 - round, 60);
                for (int bag = 0; bag < 6; bag++) {
                    h.load(3, 1 + (7 * round + 5 * bag * bag) % 20);
                }
                for (int height = 1; height <= 40; height++) {
                    int least = height;
                    s.due("as fewestDrops", fewestDrops(h, least), () -> h.fewestDropsBySets(3, least));
                }
            }
        });
        s.test(BERTH, () -> everyBerth(s, (h, berth) -> h.fewestDropsBySets(berth, 30), 1, 0));
        s.test(HEIGHT, () -> heights(s, BalloonHarbour::fewestDropsBySets, 1));
        s.test("Returns the number of bags.", () -> {
            s.due("the height", 0, () -> Busy.harbour().fewestDropsBySets(Busy.LOADED, 8));
            s.due("1 more than the height", 1, () -> Busy.harbour().fewestDropsBySets(Busy.LOADED, 9));
            s.onlyTells(1, h -> h.fewestDropsBySets(Busy.LOADED, 20));
        });
        s.test(NO_HEIGHT, () -> noHeight(s, BalloonHarbour::fewestDropsBySets));
        s.test(NO_SET, () -> noSet(s, BalloonHarbour::fewestDropsBySets));
    }

    private static Object fewestDrops(BalloonHarbour h, int height) {
        try {
            return h.fewestDrops(3, height);
        } catch (NoSuchElementException e) {
            return NO_ELEMENT;
        }
    }

    private static void dropWeight(Sentences s) {
        s.section("Promise 18");
        s.test("Returns the weight of the best drop set for a height.", () -> {
            // Bags 4, 9, 1 and 7: the weights of the best sets for what a height above 10 lacks.
            BalloonHarbour h = Checks.after("moor 3 31 40 60;load 3 4;load 3 9;load 3 1;load 3 7");
            int[] weights = {0, 1, 4, 4, 4, 7, 7, 7, 9, 9, 10, 11, 13, 13, 16, 16, 16, 17, 20, 20, 20, 21};
            for (int lacks = 0; lacks < weights.length; lacks++) {
                int l = lacks;
                s.due("height lacks " + l, weights[l], () -> h.dropWeight(3, 10 + l));
            }
        });
        s.test(BERTH, () -> everyBerth(s, (h, berth) -> h.dropWeight(berth, 30), 10, 1));
        s.test(HEIGHT, () -> heights(s, BalloonHarbour::dropWeight, 20));
        s.test("Returns the sum of the weights of its bags.", () -> {
            s.due("no bags, as the height is reached", 0, () -> Busy.harbour().dropWeight(Busy.LOADED, 8));
            s.due("one bag", 7, () -> Busy.harbour().dropWeight(Busy.LOADED, 9));
            BalloonHarbour h = Checks.after("moor 3 21 40 60;load 3 1;load 3 2;load 3 3;load 3 4;load 3 5", "load 3 6");
            s.due("six bags", 21, () -> h.dropWeight(3, 21));
            s.onlyTells(15, busy -> busy.dropWeight(Busy.LOADED, 20));
        });
        s.test(NO_HEIGHT, () -> noHeight(s, BalloonHarbour::dropWeight));
        s.test(NO_SET, () -> noSet(s, BalloonHarbour::dropWeight));
    }
}
