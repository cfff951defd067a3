import java.util.NoSuchElementException;

/** Promises 11 to 18: bags. */
public final class BagsTest {
    private static final Checks CHECKS = new Checks();

    public static void main(String[] args) {
        loading();
        dropping();
        rising();
        risingChoosesTheBestSet();
        bagQueries();
        dropSets();
        CHECKS.finish();
    }

    private static void loading() {
        BalloonHarbour h = Checks.after("moor 2 90 40 60");
        CHECKS.due("11 least", 1, () -> h.load(2, 1));
        CHECKS.due("11 most", 21, () -> h.load(2, 20));
        for (int wrong : new int[] {0, 21, -5, Integer.MIN_VALUE}) {
            CHECKS.due("11 weight", IllegalArgumentException.class, () -> h.load(2, wrong));
            CHECKS.due("11 balloon before weight", NoSuchElementException.class, () -> h.load(3, wrong));
        }
        CHECKS.due("11 berth", NoSuchElementException.class, () -> h.load(10, 5));
        CHECKS.due("11 negative berth", NoSuchElementException.class, () -> h.load(-1, 5));
        for (int bag = 3; bag <= 6; bag++) {
            h.load(2, bag);
        }
        CHECKS.due("11 six bags", 6, () -> h.bagCount(2));
        CHECKS.due("11 weight before limit", IllegalArgumentException.class, () -> h.load(2, 21));
        CHECKS.due("11 limit", UnsupportedOperationException.class, () -> h.load(2, 5));
        CHECKS.due("11 denial 1", 1, h::denial);
        CHECKS.due("11 detail", 6, h::denialDetail);
        CHECKS.due("11 loaded", 39, h::loaded);
        CHECKS.due("11 aboard", 39, h::aboard);
    }

    private static void dropping() {
        BalloonHarbour h = Checks.after("moor 2 90 40 60;load 2 3;load 2 5;load 2 8");
        CHECKS.due("12 balloon", NoSuchElementException.class, () -> h.drop(1, 7));
        CHECKS.due("12 berth", NoSuchElementException.class, () -> h.drop(-1, 0));
        CHECKS.due("12 bag above", IndexOutOfBoundsException.class, () -> h.drop(2, 3));
        CHECKS.due("12 bag below", IndexOutOfBoundsException.class, () -> h.drop(2, -1));
        CHECKS.due("12", 3, () -> h.drop(2, 0));
        CHECKS.due("12 indices decrease", 5, () -> h.bagWeight(2, 0));
        CHECKS.due("12 indices decrease", 8, () -> h.bagWeight(2, 1));
        CHECKS.due("12 bags left", 2, () -> h.bagCount(2));
        CHECKS.due("12 dropped", 3, h::dropped);
        CHECKS.due("12 last", 8, () -> h.drop(2, 1));
        CHECKS.due("12 ballast", 5, () -> h.ballast(2));
        CHECKS.due("12 loaded stays", 16, h::loaded);
    }

    private static void rising() {
        BalloonHarbour h = Checks.after("moor 0 40 20 12;load 0 9;load 0 9;load 0 4;load 0 15");
        CHECKS.due("13 balloon before height", NoSuchElementException.class, () -> h.rise(1, 0));
        CHECKS.due("13 zero", IllegalArgumentException.class, () -> h.rise(0, 0));
        CHECKS.due("13 above", IllegalArgumentException.class, () -> h.rise(0, 41));
        CHECKS.due("13 reached", UnsupportedOperationException.class, () -> h.rise(0, 3));
        CHECKS.due("13 denial 4", 4, h::denial);
        CHECKS.due("13 present height", 3, h::denialDetail);
        CHECKS.due("13 no set", UnsupportedOperationException.class, () -> h.rise(0, 21));
        CHECKS.due("13 denial 3", 3, h::denial);
        CHECKS.due("13 height without bags", 20, h::denialDetail);
        CHECKS.due("13 highest height", UnsupportedOperationException.class, () -> h.rise(0, 40));
        CHECKS.due("13 smallest that suffices", 1, () -> h.rise(0, 4));
        CHECKS.due("13 dropped", 4, h::dropped);
        CHECKS.due("13 height", 7, () -> h.height(0));
        CHECKS.due("13 one heavy bag", 1, () -> h.rise(0, 20));
        CHECKS.due("13 height of the string", 20, () -> h.height(0));
        CHECKS.due("13 bags left", 2, () -> h.bagCount(0));
        CHECKS.due("13 only the 15 suffices alone", 18, () -> h.ballast(0));
        BalloonHarbour g = Checks.after("moor 5 9 40 60;load 5 9");
        CHECKS.due("13 lift is what lacks", UnsupportedOperationException.class, () -> g.rise(5, 10));
        CHECKS.due("13 lift without bags", 9, g::denialDetail);
        CHECKS.due("13 least height", 1, () -> g.rise(5, 1));
        g.load(5, 9);
        CHECKS.due("13 greatest height", 1, () -> g.rise(5, 9));
        Checks.run(g, "load 5 1;load 5 1;load 5 1;load 5 1;load 5 1;load 5 4");
        CHECKS.due("13 the sixth bag", 1, () -> g.rise(5, 4));
        CHECKS.due("13 the sixth bag went", 5, () -> g.ballast(5));
    }

    private static void risingChoosesTheBestSet() {
        BalloonHarbour h = Checks.after("moor 0 60 40 60;load 0 7;load 0 20;load 0 3;load 0 7",
                "load 0 10;load 0 20");
        // ballast 67: 10 needs 17, with one bag 20; of the two, the one with index 1
        CHECKS.due("13 lowest index of equal ones", 1, () -> h.rise(0, 10));
        CHECKS.due("13 index 1 went", 3, () -> h.bagWeight(0, 1));
        CHECKS.due("13 index 4 is the other 20", 20, () -> h.bagWeight(0, 4));
        // now 7, 3, 7, 10, 20 at height 13; 28 lacks 15, which one bag does: 20
        CHECKS.due("13 fewest first", 1, () -> h.rise(0, 28));
        // now 7, 3, 7, 10 at height 33; 40 lacks 7: the first 7
        CHECKS.due("13 smallest weight next", 1, () -> h.rise(0, 40));
        CHECKS.due("13 3 comes first now", 3, () -> h.bagWeight(0, 0));
        CHECKS.due("13 all others stay", 3, () -> h.bagCount(0));

        // 4, 5, 5, 4 at height 2: 10 lacks 8, two bags of 8: 4 and 4, indices 0 and 3
        BalloonHarbour g = Checks.after("moor 3 20 40 60;load 3 4;load 3 5;load 3 5;load 3 4");
        CHECKS.due("13 pair of least weight", 2, () -> g.rise(3, 10));
        CHECKS.due("13 both 5 stay", 5, () -> g.bagWeight(3, 0));
        CHECKS.due("13 both 5 stay", 5, () -> g.bagWeight(3, 1));

        // 3, 6, 5, 4: 9 is 3+6 or 5+4; the set with index 0 goes
        BalloonHarbour f = Checks.after("moor 3 20 40 60;load 3 3;load 3 6;load 3 5;load 3 4");
        CHECKS.due("13 set with the lowest index", 2, () -> f.rise(3, 11));
        CHECKS.due("13 5 stays", 5, () -> f.bagWeight(3, 0));
        CHECKS.due("13 4 stays", 4, () -> f.bagWeight(3, 1));

        // 2, 6, 3, 4, 5: 7 with 2 is 2+5, 3+4 alone is the other: the lowest index is that of 2
        BalloonHarbour e = Checks.after("moor 3 20 40 60;load 3 2;load 3 1;load 3 3;load 3 4",
                "load 3 5");
        CHECKS.due("13 lowest of those in one alone", 2, () -> e.rise(3, 12));
        CHECKS.due("13 1 stays", 1, () -> e.bagWeight(3, 0));
        CHECKS.due("13 3 stays", 3, () -> e.bagWeight(3, 1));
        CHECKS.due("13 4 stays", 4, () -> e.bagWeight(3, 2));
    }

    private static void bagQueries() {
        BalloonHarbour h = Checks.after("moor 7 90 40 60;load 7 13;load 7 2");
        CHECKS.due("14", 2, () -> h.bagCount(7));
        CHECKS.due("15 first", 13, () -> h.bagWeight(7, 0));
        CHECKS.due("15 last", 2, () -> h.bagWeight(7, 1));
        CHECKS.due("15 above", IndexOutOfBoundsException.class, () -> h.bagWeight(7, 2));
        CHECKS.due("15 far above", IndexOutOfBoundsException.class, () -> h.bagWeight(7, 6));
        CHECKS.due("15 below", IndexOutOfBoundsException.class, () -> h.bagWeight(7, -1));
        for (int berth : new int[] {-1, 6, 10}) {
            CHECKS.due("14 none", NoSuchElementException.class, () -> h.bagCount(berth));
            CHECKS.due("15 none", NoSuchElementException.class, () -> h.bagWeight(berth, -1));
        }
        h.castOff(7);
        CHECKS.due("14 gone", NoSuchElementException.class, () -> h.bagCount(7));
    }

    private static void dropSets() {
        BalloonHarbour h = Checks.after("moor 0 40 30 60;load 0 9;load 0 12;load 0 4;load 0 9");
        // ballast 34, height 6
        int[][] due = {{1, 0, 0}, {6, 0, 0}, {7, 1, 4}, {10, 1, 4}, {11, 1, 9}, {16, 1, 12}, {18, 1, 12},
            {19, 2, 13}, {20, 2, 16}, {24, 2, 18}, {27, 2, 21}, {28, 3, 22}, {30, 3, 25}};
        for (int[] d : due) {
            CHECKS.due("16 for " + d[0], d[1], () -> h.fewestDrops(0, d[0]));
            CHECKS.due("17 for " + d[0], d[1], () -> h.fewestDropsBySets(0, d[0]));
            CHECKS.due("18 for " + d[0], d[2], () -> h.dropWeight(0, d[0]));
        }
        for (int height : new int[] {31, 40}) {
            CHECKS.due("16 no set", NoSuchElementException.class, () -> h.fewestDrops(0, height));
            CHECKS.due("17 no set", NoSuchElementException.class, () -> h.fewestDropsBySets(0, height));
            CHECKS.due("18 no set", NoSuchElementException.class, () -> h.dropWeight(0, height));
        }
        for (int height : new int[] {0, -1, 41}) {
            for (int berth : new int[] {0, 1, -1, 10}) {
                CHECKS.due("16 height", IllegalArgumentException.class, () -> h.fewestDrops(berth, height));
                CHECKS.due("17 height", IllegalArgumentException.class, () -> h.fewestDropsBySets(berth, height));
                CHECKS.due("18 height", IllegalArgumentException.class, () -> h.dropWeight(berth, height));
            }
        }
        for (int berth : new int[] {-1, 1, 10}) {
            CHECKS.due("16 none", NoSuchElementException.class, () -> h.fewestDrops(berth, 40));
            CHECKS.due("17 none", NoSuchElementException.class, () -> h.fewestDropsBySets(berth, 40));
            CHECKS.due("18 none", NoSuchElementException.class, () -> h.dropWeight(berth, 40));
        }
        CHECKS.due("16 changes nothing", 34, () -> h.ballast(0));
        CHECKS.due("16 is no change", 1, h::undoCount);
        // Ballast far above the lift: what is dropped must first make up for that.
        BalloonHarbour g = Checks.after("moor 1 10 30 60;load 1 20;load 1 20;load 1 5");
        CHECKS.due("16 overloaded", 2, () -> g.fewestDrops(1, 1));
        CHECKS.due("17 overloaded", 2, () -> g.fewestDropsBySets(1, 1));
        CHECKS.due("18 overloaded", 40, () -> g.dropWeight(1, 1));
        CHECKS.due("16 all bags", 3, () -> g.fewestDrops(1, 10));
        BalloonHarbour f = Checks.after("moor 0 30 40 60;load 0 1;load 0 6;load 0 20;drop 0 2");
        CHECKS.due("16 the bag that is gone", 1, () -> f.fewestDrops(0, 29));
        f.drop(0, 1);
        CHECKS.due("16 lightest bag", 1, () -> f.fewestDrops(0, 30));
    }
}
