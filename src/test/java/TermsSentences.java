import java.util.Arrays;
import java.util.NoSuchElementException;

/** "Terms", from the balloons to the tangles. */
final class TermsSentences {
    private static final Class<?> BAD_ARGUMENT = IllegalArgumentException.class;
    private static final Class<?> BAD_INDEX = IndexOutOfBoundsException.class;
    private static final Class<?> DENIED = UnsupportedOperationException.class;
    private static final Class<?> NO_ELEMENT = NoSuchElementException.class;

    private TermsSentences() {
    }

    static void tell(Sentences s) {
        berths(s);
        bags(s);
        heights(s);
        hours(s);
        lifts(s);
        bursts(s);
        shaking(s);
        dropSets(s);
        tangles(s);
    }

    private static void berths(Sentences s) {
        s.section("Terms, Balloons");
        s.test("The harbour has the berths 0 to 9; on each, at most one balloon is moored.", () -> {
            BalloonHarbour h = new BalloonHarbour();
            s.due("before the first berth", BAD_ARGUMENT, () -> h.moor(-1, 1, 1, 1));
            s.due("behind the last berth", BAD_ARGUMENT, () -> h.moor(10, 1, 1, 1));
            for (int berth = 0; berth < 10; berth++) {
                int b = berth;
                s.due("berth " + b, 1, () -> h.moor(b, 1, 1, 1));
            }
            for (int berth = 0; berth < 10; berth++) {
                int b = berth;
                s.due("a second balloon on berth " + b, DENIED, () -> h.moor(b, 2, 2, 2));
                s.due("the first balloon on berth " + b, 1, () -> h.lift(b));
            }
            s.due("a full harbour", 10, h::balloonCount);
            h.castOff(7);
            s.due("a berth that is free again", 2, () -> h.moor(7, 2, 2, 2));
        });
    }

    private static void bags(Sentences s) {
        s.test("A balloon has a lift from 1 to 99, a string with a length from 1 to 40, a strength from 1 to 60, and "
                + "at most 6 bags with weights from 1 to 20, indexed from 0 in the order in which they were loaded; "
                + "when a bag is gone, the indices of the later ones decrease by 1.", () -> {
            BalloonHarbour h = new BalloonHarbour();
            int[][] wrong = {{0, 40, 60}, {100, 40, 60}, {99, 0, 60}, {99, 41, 60}, {99, 40, 0}, {99, 40, 61}};
            for (int[] w : wrong) {
                s.due("lift " + w[0] + ", string " + w[1] + ", strength " + w[2], BAD_ARGUMENT,
                        () -> h.moor(0, w[0], w[1], w[2]));
            }
            s.due("least lift, string and strength", 1, () -> h.moor(0, 1, 1, 1));
            s.due("greatest lift, string and strength", 40, () -> h.moor(1, 99, 40, 60));
            s.due("weight 0", BAD_ARGUMENT, () -> h.load(1, 0));
            s.due("weight 21", BAD_ARGUMENT, () -> h.load(1, 21));
            int[] weights = {20, 1, 5, 7, 11, 13};
            for (int bag = 0; bag < 6; bag++) {
                int b = bag;
                s.due("no bag " + b + " yet", BAD_INDEX, () -> h.bagWeight(1, b));
                h.load(1, weights[b]);
                s.due("bag " + b, weights[b], () -> h.bagWeight(1, b));
            }
            s.due("a seventh bag", DENIED, () -> h.load(1, 1));
            s.due("six bags", 6, () -> h.bagCount(1));
            h.drop(1, 5);
            bagsAre(s, h, "the last one is gone", 20, 1, 5, 7, 11);
            h.drop(1, 0);
            bagsAre(s, h, "the first one is gone", 1, 5, 7, 11);
            h.drop(1, 1);
            bagsAre(s, h, "a middle one is gone", 1, 7, 11);
            h.load(1, 3);
            bagsAre(s, h, "one more comes to the end", 1, 7, 11, 3);
        });
    }

    private static void bagsAre(Sentences s, BalloonHarbour h, String what, int... weights) {
        s.due(what + ": number", weights.length, () -> h.bagCount(1));
        for (int bag = 0; bag < weights.length; bag++) {
            int b = bag;
            s.due(what + ": bag " + b, weights[b], () -> h.bagWeight(1, b));
        }
        s.due(what + ": behind the last one", BAD_INDEX, () -> h.bagWeight(1, weights.length));
    }

    private static void heights(Sentences s) {
        s.test("The ballast of a balloon is the sum of the weights of its bags.", () -> {
            BalloonHarbour h = Checks.after("moor 3 9 9 9");
            s.due("no bags", 0, () -> h.ballast(3));
            for (int bag = 1; bag <= 6; bag++) {
                h.load(3, 20);
                s.due("bags of 20: " + bag, 20 * bag, () -> h.ballast(3));
            }
            h.drop(3, 2);
            s.due("one is gone", 100, () -> h.ballast(3));
        });
        s.test("Its spare lift is its lift less its ballast, but at least 0.", () -> {
            BalloonHarbour h = Checks.after("moor 3 9 40 60;load 3 7;pilot 2 0-0;pilot 3 0-0;pilot 1 0-0");
            s.due("spare lift 2", 2, () -> h.height(3));
            s.due("spare lift 2 for weight 2", true, () -> h.canCrew(0, 3));
            s.due("spare lift 2 for weight 3", false, () -> h.canCrew(1, 3));
            h.load(3, 1);
            s.due("spare lift 1", 1, () -> h.height(3));
            h.load(3, 1);
            s.due("ballast as great as the lift", 0, () -> h.height(3));
            h.load(3, 20);
            s.due("ballast greater than the lift", 0, () -> h.height(3));
            s.due("no spare lift for weight 1", false, () -> h.canCrew(2, 3));
        });
        s.test("Its height is the smaller one of its spare lift and the length of its string.", () -> {
            BalloonHarbour h = Checks.after("moor 0 8 9 60;moor 1 9 9 60;moor 2 10 9 60;load 2 1");
            s.due("spare lift smaller by 1", 8, () -> h.height(0));
            s.due("both equal", 9, () -> h.height(1));
            s.due("both equal, with a bag", 9, () -> h.height(2));
            h.load(2, 1);
            s.due("spare lift smaller by 1, with bags", 8, () -> h.height(2));
            s.due("string smaller by 1", 9, () -> h.moor(3, 10, 9, 60));
        });
    }

    private static void hours(Sentences s) {
        s.section("Terms, Hours");
        s.test("The hour is initially 0.", () -> s.due("hour", 0, () -> new BalloonHarbour().hour()));
        s.test("The hour of the day is the hour modulo 24.", () -> {
            BalloonHarbour h = Checks.after("moor 0 99 1 60;wind 0=1;wind 23=2;pilot 1 23-23;pilot 1 0-0");
            for (int hour = 1; hour <= 72; hour++) {
                int t = hour % 24;
                h.pass(1);
                s.due("wind in hour " + hour, t == 0 ? 1 : t == 23 ? 2 : 0, () -> h.top(0));
                s.due("duty of 23 in hour " + hour, t == 23, () -> h.canCrew(0, 0));
                s.due("duty of 0 in hour " + hour, t == 0, () -> h.canCrew(1, 0));
            }
        });
        s.test("Each hour of the day has a wind from -9 to 9, initially 0.", () -> {
            BalloonHarbour h = new BalloonHarbour();
            for (int hour = 0; hour < 24; hour++) {
                int t = hour;
                s.due("initial wind of " + t, 0, () -> h.wind(t));
                s.due("wind 10 at " + t, BAD_ARGUMENT, () -> h.setWind(t, 10));
                s.due("wind -10 at " + t, BAD_ARGUMENT, () -> h.setWind(t, -10));
                s.due("wind 9 at " + t, 0, () -> h.setWind(t, 9));
                s.due("wind -9 at " + t, 9, () -> h.setWind(t, -9));
                s.due("wind of " + t, -9, () -> h.wind(t));
            }
            s.due("no hour before 0", BAD_ARGUMENT, () -> h.setWind(-1, 1));
            s.due("no hour behind 23", BAD_ARGUMENT, () -> h.setWind(24, 1));
        });
        s.test("The present wind is that of the present hour of the day.", () -> {
            BalloonHarbour h = Checks.after("moor 0 99 1 60");
            for (int hour = 0; hour < 24; hour++) {
                h.setWind(hour, hour % 9 + 1);
            }
            for (int hour = 0; hour < 48; hour++) {
                s.due("in hour " + hour, hour % 24 % 9 + 1, () -> h.top(0));
                h.pass(1);
            }
        });
    }

    private static void lifts(Sentences s) {
        s.section("Terms, One hour");
        s.test("When an hour passes, the hour increases by 1.", () -> {
            BalloonHarbour h = new BalloonHarbour();
            for (int hour = 1; hour <= 50; hour++) {
                h.pass(1);
                s.due("the hour of the next day goes on", hour, h::hour);
            }
        });
        s.test("Then the lift of each balloon increases by 1, up to 99, if the hour of the day is from 6 to 17, "
                + "and decreases by 1, down to 1, otherwise.", () -> {
            BalloonHarbour h = Checks.after("moor 0 50 1 60;moor 9 60 1 60");
            int lift = 50;
            for (int hour = 1; hour <= 72; hour++) {
                h.pass(1);
                lift += hour % 24 >= 6 && hour % 24 <= 17 ? 1 : -1;
                s.due("first berth in hour " + hour, lift, () -> h.lift(0));
                s.due("last berth in hour " + hour, lift + 10, () -> h.lift(9));
            }
            afterHours(s, "hour 5", 4, 50, 49);
            afterHours(s, "hour 6", 5, 50, 51);
            afterHours(s, "hour 17", 16, 50, 51);
            afterHours(s, "hour 18", 17, 50, 49);
            afterHours(s, "hour 24", 23, 50, 49);
            afterHours(s, "one below the greatest lift", 5, 98, 99);
            afterHours(s, "the greatest lift", 5, 99, 99);
            afterHours(s, "one above the least lift", 0, 2, 1);
            afterHours(s, "the least lift", 0, 1, 1);
        });
    }

    private static void afterHours(Sentences s, String what, int hours, int lift, int want) {
        BalloonHarbour h = new BalloonHarbour();
        for (int passed = 0; passed < hours; passed++) {
            h.pass(1);
        }
        h.moor(4, lift, 1, 60);
        h.pass(1);
        s.due(what, want, () -> h.lift(4));
    }

    private static void bursts(Sentences s) {
        s.test("Then balloons burst: all balloons whose height is greater than their strength come into a queue, in "
                + "ascending order of their berths.", () -> {
            // Lifts fall by 1 before: heights 10, 11 and 10 of 10.
            BalloonHarbour h = Checks.after("moor 0 11 40 10;moor 4 12 40 10;moor 9 30 10 10");
            s.due("one in the queue", 1, () -> h.pass(1));
            s.due("height equal to the strength by lift", true, () -> h.isMoored(0));
            s.due("height greater by 1", false, () -> h.isMoored(4));
            s.due("height equal to the strength by string", true, () -> h.isMoored(9));
            // Lifts rise before: 10 becomes 11.
            BalloonHarbour g = Checks.after("wait 5;moor 2 10 40 10;moor 7 9 40 10");
            s.due("greater only after the lift has increased", 1, () -> g.pass(1));
            s.due("equal after the lift has increased", true, () -> g.isMoored(7));
            BalloonHarbour f = Checks.after("moor 0 50 40 9;moor 9 50 40 9;moor 5 50 40 9");
            s.due("the first and the last berth come too", 3, () -> f.pass(1));
            s.due("no balloon left", 0, f::balloonCount);
            s.due("an empty queue", 0, () -> f.pass(1));
        });
        s.test("As long as the queue is not empty, its first balloon leaves it and bursts: it is gone, all its bags "
                + "are lost, and the balloons on the berth before and on the berth after it are shaken, in this "
                + "order, as far as they are there.", () -> {
            BalloonHarbour h = Checks.after("moor 4 99 40 9;load 4 1;load 4 2;load 4 3;load 4 4;load 4 5",
                    "load 4 6;moor 3 50 40 60;load 3 20;moor 5 50 40 60;load 5 19", "moor 2 50 40 60;load 2 18",
                    "moor 6 50 40 60;load 6 17");
            s.due("one bursts", 1, () -> h.pass(1));
            s.due("it is gone", false, () -> h.isMoored(4));
            s.due("the berth before is shaken", 0, () -> h.bagCount(3));
            s.due("the berth after is shaken", 0, () -> h.bagCount(5));
            s.due("two berths before is not shaken", 1, () -> h.bagCount(2));
            s.due("two berths after is not shaken", 1, () -> h.bagCount(6));
            s.due("all six bags and the shaken ones are lost", 60, h::lost);
            BalloonHarbour first = Checks.after("moor 0 50 40 9;moor 9 50 40 60;load 9 3");
            s.due("no berth before the first one", 1, () -> first.pass(1));
            s.due("the last berth is not before the first one", 1, () -> first.bagCount(9));
            BalloonHarbour last = Checks.after("moor 9 50 40 9;moor 0 50 40 60;load 0 3");
            s.due("no berth after the last one", 1, () -> last.pass(1));
            s.due("the first berth is not after the last one", 1, () -> last.bagCount(0));
            BalloonHarbour alone = Checks.after("moor 5 50 40 9");
            s.due("no balloons there to shake, no bags to lose", 1, () -> alone.pass(1));
            s.due("nothing lost", 0, alone::lost);
        });
    }

    private static void shaking(Sentences s) {
        s.test("A shaken balloon loses the bag that was loaded last, if it has any; if its height is greater than its "
                + "strength then, and it is not in the queue, it comes to the end of the queue.", () -> {
            // 5 bursts; 4 has 40 - 20 = 20 with one bag less, and 29 after the other one.
            BalloonHarbour h = Checks.after("moor 5 50 40 9;moor 4 41 40 20;load 4 20;load 4 9");
            s.due("height equal to the strength then", 1, () -> h.pass(1));
            s.due("the bag that was loaded last", 9, h::lost);
            s.due("the first bag stays", 20, () -> h.bagWeight(4, 0));
            BalloonHarbour g = Checks.after("moor 5 50 40 9;moor 4 41 40 19;load 4 20;load 4 9");
            s.due("height greater by 1 then", 2, () -> g.pass(1));
            s.due("all bags are lost then", 29, g::lost);
            BalloonHarbour f = Checks.after("moor 5 50 40 9;moor 4 41 40 60;moor 6 41 40 60");
            s.due("shaken without bags", 1, () -> f.pass(1));
            s.due("both stay", 2, f::balloonCount);
            // 4 and 5 are in the queue; 4 shakes 5, which bursts once only.
            BalloonHarbour e = Checks.after("moor 4 50 40 9;moor 5 50 40 9;load 5 2;load 5 3");
            s.due("in the queue already", 2, () -> e.pass(1));
            s.due("each bag is lost once", 5, e::lost);
            // Each needs one bag less; 0 shakes 1, which shakes 2, and so on to 9.
            BalloonHarbour d = new BalloonHarbour();
            BalloonHarbour c = new BalloonHarbour();
            for (int berth = 0; berth < 10; berth++) {
                d.moor(berth, 50, 40, 39);
                d.load(berth, berth == 0 ? 1 : 20);
                c.moor(9 - berth, 50, 40, 39);
                c.load(9 - berth, berth == 0 ? 1 : 20);
            }
            s.due("the queue grows to the last berth", 10, () -> d.pass(1));
            s.due("the queue grows to the first berth", 10, () -> c.pass(1));
            // 4 and 6 burst, and each takes a bag from 5.
            BalloonHarbour b = Checks.after("moor 4 50 40 9;moor 6 50 40 9;moor 5 50 40 28",
                    "load 5 1;load 5 20;load 5 20");
            s.due("shaken twice", 3, () -> b.pass(1));
            s.due("all bags are lost", 41, b::lost);
        });
    }

    private static void dropSets(Sentences s) {
        s.section("Terms, Dropping");
        s.test("A drop set for a height is a set of bags of a balloon without which its height would be at least this "
                + "height.", () -> {
            BalloonHarbour h = Checks.after("moor 0 30 25 60;load 0 4;load 0 8");
            s.due("no bag, the height is reached", 0, () -> h.fewestDrops(0, 18));
            s.due("the height lacks 1", 1, () -> h.fewestDrops(0, 19));
            s.due("one bag reaches the string", 8, () -> h.dropWeight(0, 25));
            s.due("longer than the string", NO_ELEMENT, () -> h.fewestDrops(0, 26));
            BalloonHarbour g = Checks.after("moor 0 10 40 60;load 0 20;load 0 20");
            s.due("the lift is less than the ballast", 2, () -> g.fewestDrops(0, 1));
            s.due("all bags", 2, () -> g.fewestDrops(0, 10));
            s.due("more than the lift", NO_ELEMENT, () -> g.fewestDrops(0, 11));
            BalloonHarbour f = Checks.after("moor 0 10 40 60");
            s.due("a balloon without bags, the height is reached", 0, () -> f.fewestDrops(0, 10));
            s.due("a balloon without bags, no set", NO_ELEMENT, () -> f.fewestDrops(0, 11));
        });
        s.test("The best drop set has the fewest bags; of several, it has the smallest weight together; and of several "
                + "of these, it contains the bag with the lowest index of those that are in one of both sets alone.",
                () -> {
            rise(s, "one heavy bag, not two light ones", 7, new int[] {3, 4, 9}, 3, 4);
            rise(s, "the lightest one that is enough", 7, new int[] {9, 8, 7, 6, 20}, 9, 8, 6, 20);
            rise(s, "the pair of least weight", 9, new int[] {5, 5, 4, 5, 8}, 5, 5, 8);
            rise(s, "of equal ones the first", 5, new int[] {4, 5, 3, 5, 5, 2}, 4, 3, 5, 5, 2);
            rise(s, "the first pair", 7, new int[] {3, 5, 4, 2}, 5, 2);
            rise(s, "the lowest index that is in one alone is in the middle", 9, new int[] {5, 1, 4, 1, 4, 1},
                    1, 1, 4, 1);
            rise(s, "the lowest index decides, not the highest one", 9, new int[] {4, 6, 3, 5}, 6, 3);
            rise(s, "all bags", 21, new int[] {1, 2, 3, 4, 5, 6});
            rise(s, "the last bag", 6, new int[] {1, 2, 3, 4, 5, 6}, 1, 2, 3, 4, 5);
        });
    }

    /** A balloon of height 10 drops bags to be higher by what lacks; the others stay in their order. */
    private static void rise(Sentences s, String what, int lacks, int[] bags, int... left) {
        BalloonHarbour h = new BalloonHarbour();
        h.moor(1, Arrays.stream(bags).sum() + 10, 40, 60);
        for (int bag : bags) {
            h.load(1, bag);
        }
        s.due(what + ": bags", bags.length - left.length, () -> h.rise(1, 10 + lacks));
        bagsAre(s, h, what, left);
    }

    private static void tangles(Sentences s) {
        s.section("Terms, Tangles");
        s.test("The top of a balloon is 10 times its berth plus the product of its height and the present wind.",
                () -> {
            BalloonHarbour h = Checks.after("moor 0 99 40 60;moor 9 99 40 60;moor 5 7 40 60");
            s.due("no wind, first berth", 0, () -> h.top(0));
            s.due("no wind, last berth", 90, () -> h.top(9));
            h.setWind(0, 9);
            s.due("strongest wind, first berth", 360, () -> h.top(0));
            s.due("strongest wind, last berth", 450, () -> h.top(9));
            s.due("height by lift", 113, () -> h.top(5));
            h.setWind(0, -9);
            s.due("strongest wind back, first berth", -360, () -> h.top(0));
            s.due("strongest wind back, last berth", -270, () -> h.top(9));
            h.load(5, 20);
            s.due("height 0", 50, () -> h.top(5));
            h.setWind(1, 2);
            s.due("the wind of another hour", -270, () -> h.top(9));
        });
        s.test("The strings of two balloons are tangled if the top of the one on the lower berth is greater than that "
                + "of the other one.", () -> {
            tangled(s, "tops 20 and 20", 0, "moor 0 10 40 60;moor 1 5 40 60;wind 0=2");
            tangled(s, "tops 20 and 19", 1, "moor 0 20 40 60;moor 1 9 40 60;wind 0=1");
            tangled(s, "tops 20 and 21", 0, "moor 0 20 40 60;moor 1 11 40 60;wind 0=1");
            tangled(s, "tops -90 and 1", 0, "moor 0 10 40 60;moor 1 1 40 60;wind 0=-9");
            tangled(s, "tops -9 and -80", 1, "moor 0 1 40 60;moor 1 10 40 60;wind 0=-9");
            tangled(s, "far from each other", 1, "moor 0 40 40 60;moor 9 1 40 60;wind 0=9");
        });
    }

    private static void tangled(Sentences s, String what, int want, String text) {
        BalloonHarbour h = Checks.after(text);
        s.due(what, want, h::tangles);
        s.due(what + " by merging", want, h::tanglesByMerging);
    }
}
