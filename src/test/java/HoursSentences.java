import java.util.NoSuchElementException;

/** Promises 33 to 42: hours and accounts. */
final class HoursSentences {
    private static final Class<?> BAD_ARGUMENT = IllegalArgumentException.class;
    private static final Class<?> NO_ELEMENT = NoSuchElementException.class;

    private HoursSentences() {
    }

    static void tell(Sentences s) {
        pass(s);
        passTells(s);
        burstsAhead(s);
        hour(s);
        bursts(s);
        loaded(s);
        aboard(s);
        dropped(s);
        lost(s);
        meanHeight(s);
        strain(s);
    }

    private static void pass(Sentences s) {
        s.section("Promise 33");
        s.test("Lets hours pass, one after the other.", () -> {
            String[] texts = {"moor 0 60 40 45;load 0 20;moor 1 25 30 24", "moor 2 42 40 39;load 2 3",
                "moor 9 10 40 14;load 9 2"};
            BalloonHarbour whole = Checks.after(texts);
            BalloonHarbour single = Checks.after(texts);
            int burst = 0;
            for (int hour = 0; hour < 48; hour++) {
                burst += single.pass(1);
            }
            s.due("as many bursts as in single hours", burst, () -> whole.pass(48));
            s.due("what is then", State.of(single), () -> State.of(whole));
            // 14 at hour 5, then 15, 16 ..: it bursts in the first hour in which it is too high.
            BalloonHarbour h = Checks.after("moor 3 19 40 20");
            s.due("not yet at hour 11", 0, () -> h.pass(11));
            s.due("at hour 12", 1, () -> h.pass(1));
            BalloonHarbour g = Checks.after("moor 3 19 40 20");
            s.due("on the way, though it would be low again at the end", 1, () -> g.pass(24));
        });
        s.test("- `hours`: the number of hours, 1 to 48", () -> {
            BalloonHarbour h = new BalloonHarbour();
            s.due("1", 0, () -> h.pass(1));
            s.due("hour after 1", 1, h::hour);
            s.due("48", 0, () -> h.pass(48));
            s.due("hour after 48", 49, h::hour);
            s.needsRange("hours", 1, 48, BalloonHarbour::pass);
        });
    }

    private static void passTells(Sentences s) {
        s.test("Returns the number of balloons that burst.", () -> {
            BalloonHarbour h = new BalloonHarbour();
            s.due("no balloons", 0, () -> h.pass(1));
            for (int berth = 0; berth < 10; berth++) {
                h.moor(berth, 50, 40, 9);
            }
            s.due("all ten", 10, () -> h.pass(1));
            s.due("none left", 0, () -> h.pass(48));
            // 1 bursts in the first hour and shakes 2, which bursts then; 7 bursts at hour 12.
            BalloonHarbour g = Checks.after("moor 1 50 40 9;moor 2 50 40 39;load 2 20;moor 7 19 40 20");
            s.due("in all hours together, shaken ones too", 3, () -> g.pass(12));
        });
        s.test("Throws `IllegalArgumentException` if the number of hours is out of range", () -> {
            s.refused("too small", BAD_ARGUMENT, h -> h.pass(0));
            s.refused("negative", BAD_ARGUMENT, h -> h.pass(-1));
            s.refused("too large", BAD_ARGUMENT, h -> h.pass(49));
        });
    }

    private static void burstsAhead(Sentences s) {
        s.section("Promise 34");
        s.test("Returns the number of balloons that would burst in the next hour.", () -> {
            s.due("no balloons", 0, () -> new BalloonHarbour().burstsAhead());
            s.due("the lift is less in the next hour", 0, () -> Checks.after("moor 3 10 40 9").burstsAhead());
            s.due("too high still", 1, () -> Checks.after("moor 3 11 40 9").burstsAhead());
            s.due("the lift is greater in the next hour", 1, () -> Checks.after("wait 5;moor 3 9 40 9").burstsAhead());
            s.due("not in the hour after it", 0, () -> Checks.after("wait 5;moor 3 8 40 9").burstsAhead());
            s.due("one that is shaken", 2,
                    () -> Checks.after("moor 1 50 40 9;moor 2 50 40 39;load 2 20").burstsAhead());
            BalloonHarbour h = new BalloonHarbour();
            for (int berth = 0; berth < 10; berth++) {
                h.moor(berth, 50, 40, 39);
                h.load(berth, berth == 9 ? 1 : 20);
            }
            s.due("all ten, one after the other", 10, h::burstsAhead);
            s.due("and they do", 10, () -> h.pass(1));
        });
        s.test("Returns the number of balloons.", () -> s.onlyTells(1, BalloonHarbour::burstsAhead));
    }

    private static void hour(Sentences s) {
        s.section("Promise 35");
        s.test("Returns the number of hours that have passed.", () -> {
            BalloonHarbour h = new BalloonHarbour();
            s.due("none", 0, h::hour);
            h.pass(23);
            s.due("23", 23, h::hour);
            h.pass(1);
            s.due("a day", 24, h::hour);
            h.pass(1);
            s.due("on the second day", 25, h::hour);
            h.pass(48);
            s.due("on the fourth day", 73, h::hour);
            Busy.refuse(() -> h.pass(49));
            s.due("refused hours", 73, h::hour);
            Checks.run(h, "wait 2;wait 3");
            s.due("by a text", 78, h::hour);
        });
        s.test("Returns the number of hours.", () -> {
            BalloonHarbour h = new BalloonHarbour();
            for (int call = 0; call < 500; call++) {
                h.pass(48);
            }
            s.due("as many as 500 calls let pass", 24000, h::hour);
            s.onlyTells(1, BalloonHarbour::hour);
        });
    }

    private static void bursts(Sentences s) {
        s.section("Promise 36");
        s.test("Returns the number of balloons that have burst so far.", () -> {
            BalloonHarbour h = Checks.after("moor 1 50 40 9;moor 2 50 40 39;load 2 20;moor 5 9 9 9");
            s.due("none", 0, h::bursts);
            h.burstsAhead();
            s.due("ahead only", 0, h::bursts);
            h.pass(1);
            s.due("two in one hour", 2, h::bursts);
            h.castOff(5);
            s.due("not the one that was cast off", 2, h::bursts);
            h.moor(5, 50, 40, 9);
            h.pass(1);
            s.due("one more", 3, h::bursts);
            h.pass(48);
            s.due("no more", 3, h::bursts);
        });
        s.test("Returns the number of balloons.", () -> s.onlyTells(1, BalloonHarbour::bursts));
    }

    private static void loaded(Sentences s) {
        s.section("Promise 37");
        s.test("Returns the weight of all bags that have been loaded so far.", () -> {
            BalloonHarbour h = Checks.after("moor 1 50 40 60;moor 9 50 40 60");
            s.due("none", 0, h::loaded);
            h.load(1, 1);
            h.load(9, 20);
            s.due("two", 21, h::loaded);
            h.drop(9, 0);
            h.castOff(1);
            s.due("that are gone", 21, h::loaded);
            h.load(9, 20);
            s.due("one more", 41, h::loaded);
            Busy.refuse(() -> h.load(9, 21));
            s.due("refused", 41, h::loaded);
            s.due("a denied one", 69, () -> {
                BalloonHarbour busy = Busy.harbour();
                Busy.refuse(() -> busy.load(Busy.FULL, 1));
                return busy.loaded();
            });
        });
        s.test("Returns the weight; it is always the sum of aboard, dropped and lost.", () -> {
            BalloonHarbour h = Busy.harbour();
            sum(s, h, "a busy harbour", 69, 62, 3, 4);
            h.pass(1);
            sum(s, h, "a burst without bags", 69, 62, 3, 4);
            h.drop(Busy.LOADED, 0);
            sum(s, h, "a dropped bag", 69, 55, 10, 4);
            h.rise(Busy.LOADED, 20);
            sum(s, h, "a drop set", 69, 40, 25, 4);
            h.moor(1, 50, 40, 9);
            h.load(1, 5);
            sum(s, h, "a loaded bag", 74, 45, 25, 4);
            h.pass(1);
            // 1 bursts, and 0 and 2 are shaken; 0 loses 20.
            sum(s, h, "a burst that shakes", 74, 20, 25, 29);
            h.castOff(Busy.FULL);
            sum(s, h, "cast off", 74, 0, 45, 29);
            h.undo();
            sum(s, h, "undone", 74, 20, 25, 29);
            h.restoreSnapshot();
            sum(s, h, "restored", 34, 28, 2, 4);
            s.onlyTells(69, BalloonHarbour::loaded);
        });
    }

    private static void sum(Sentences s, BalloonHarbour h, String what, int loaded, int aboard, int dropped, int lost) {
        s.due(what + ": loaded", loaded, h::loaded);
        s.due(what + ": aboard", aboard, h::aboard);
        s.due(what + ": dropped", dropped, h::dropped);
        s.due(what + ": lost", lost, h::lost);
        s.due(what + ": the sum", h.loaded(), () -> h.aboard() + h.dropped() + h.lost());
    }

    private static void aboard(Sentences s) {
        s.section("Promise 38");
        s.test("Returns the weight of all bags of all balloons.", () -> {
            BalloonHarbour h = new BalloonHarbour();
            s.due("no balloons", 0, h::aboard);
            for (int berth = 0; berth < 10; berth++) {
                h.moor(berth, 50, 40, 60);
                for (int bag = 0; bag < 6; bag++) {
                    h.load(berth, 20);
                }
                s.due("six bags each", 120 * (berth + 1), h::aboard);
            }
            h.drop(0, 5);
            s.due("dropped", 1180, h::aboard);
            h.castOff(9);
            s.due("cast off", 1060, h::aboard);
        });
        s.test("Returns the weight.", () -> s.onlyTells(62, BalloonHarbour::aboard));
    }

    private static void dropped(Sentences s) {
        s.section("Promise 39");
        s.test("Returns the weight of all bags that have been dropped so far.", () -> {
            BalloonHarbour h = Checks.after("moor 3 40 40 60;load 3 1;load 3 5;load 3 20", "moor 4 50 40 9;load 4 2");
            s.due("none", 0, h::dropped);
            h.drop(3, 1);
            s.due("by drop", 5, h::dropped);
            h.rise(3, 20);
            s.due("by rise", 6, h::dropped);
            h.pass(1);
            s.due("not those that a burst loses", 6, h::dropped);
            h.load(3, 9);
            h.castOff(3);
            s.due("by castOff", 15, h::dropped);
            Checks.run(h, "moor 3 40 40 60;load 3 7;cast 3");
            s.due("by a text", 22, h::dropped);
        });
        s.test("Returns the weight.", () -> s.onlyTells(3, BalloonHarbour::dropped));
    }

    private static void lost(Sentences s) {
        s.section("Promise 40");
        s.test("Returns the weight of all bags that have been lost so far.", () -> {
            BalloonHarbour h = Checks.after("moor 3 50 40 60;load 3 1;load 3 5;moor 4 50 40 9;load 4 2",
                    "load 4 20;moor 9 50 40 60;load 9 3");
            s.due("none", 0, h::lost);
            h.drop(9, 0);
            s.due("not those that are dropped", 0, h::lost);
            h.pass(1);
            s.due("those of the burst one, and the last one of the shaken one", 27, h::lost);
            h.castOff(3);
            s.due("not those that are cast off", 27, h::lost);
            h.moor(0, 99, 40, 1);
            h.load(0, 4);
            h.pass(1);
            s.due("one more", 31, h::lost);
        });
        s.test("Returns the weight.", () -> s.onlyTells(4, BalloonHarbour::lost));
    }

    private static void meanHeight(Sentences s) {
        s.section("Promise 41");
        s.test("Returns the mean height of the balloons: the sum converted to double, divided by their number "
                + "converted to double.", () -> {
            BalloonHarbour h = Checks.after("moor 0 7 40 60");
            s.due("one", 7.0, h::meanHeight);
            h.moor(9, 8, 40, 60);
            s.due("a half", 7.5, h::meanHeight);
            h.moor(5, 99, 40, 60);
            s.due("a third", 55.0 / 3.0, h::meanHeight);
            h.load(9, 20);
            s.due("a height of 0 counts", 47.0 / 3.0, h::meanHeight);
            h.castOff(5);
            s.due("the one that is gone does not count", 3.5, h::meanHeight);
            h.castOff(0);
            s.due("0", 0.0, h::meanHeight);
            BalloonHarbour g = new BalloonHarbour();
            for (int berth = 0; berth < 10; berth++) {
                g.moor(berth, 99, berth == 0 ? 39 : 40, 60);
            }
            s.due("ten", 39.9, g::meanHeight);
        });
        s.test("Returns the mean.", () -> s.onlyTells(53.0 / 3.0, BalloonHarbour::meanHeight));
        s.test("Throws `ArithmeticException` if there are no balloons", () -> {
            s.due("a new harbour", ArithmeticException.class, () -> new BalloonHarbour().meanHeight());
            BalloonHarbour h = Checks.after("moor 0 50 40 9;moor 5 9 9 9;load 5 1");
            h.pass(1);
            h.castOff(5);
            s.due("all gone", ArithmeticException.class, h::meanHeight);
            s.due("nothing was changed", 3, h::undoCount);
            s.due("nor denied", NO_ELEMENT, h::denial);
        });
    }

    private static void strain(Sentences s) {
        s.section("Promise 42");
        s.test("Returns the strain of a balloon: its height divided by its strength, both numbers converted to float.",
                () -> {
            BalloonHarbour h = Checks.after("moor 0 10 40 3;moor 1 20 40 60;moor 2 7 9 7;moor 9 99 40 1");
            s.due("10 / 3", 10f / 3f, () -> h.strain(0));
            s.due("20 / 60", 20f / 60f, () -> h.strain(1));
            s.due("7 / 7", 1f, () -> h.strain(2));
            s.due("the greatest one", 40f, () -> h.strain(9));
            h.load(1, 20);
            s.due("0 / 60", 0f, () -> h.strain(1));
            h.load(2, 6);
            s.due("1 / 7", 1f / 7f, () -> h.strain(2));
        });
        s.test("- `berth`: the berth", () -> {
            BalloonHarbour h = new BalloonHarbour();
            for (int berth = 0; berth < 10; berth++) {
                h.moor(berth, 1 + berth, 40, 11);
            }
            for (int berth = 0; berth < 10; berth++) {
                int b = berth;
                s.due("berth " + b, (1 + b) / 11f, () -> h.strain(b));
            }
        });
        s.test("Returns the strain.", () -> s.onlyTells(40f / 60f, h -> h.strain(Busy.FULL)));
        s.test("Throws `NoSuchElementException` if no balloon is moored there",
                () -> s.needsBalloon(BalloonHarbour::strain));
    }
}
