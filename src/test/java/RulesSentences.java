import java.util.NoSuchElementException;

/** "Terms", from the pilots to the exceptions, but for the texts. */
final class RulesSentences {
    private static final Class<?> BAD_ARGUMENT = IllegalArgumentException.class;
    private static final Class<?> BAD_INDEX = IndexOutOfBoundsException.class;
    private static final Class<?> DENIED = UnsupportedOperationException.class;
    private static final Class<?> NO_ELEMENT = NoSuchElementException.class;
    private static final Class<?> BAD_STATE = IllegalStateException.class;

    private RulesSentences() {
    }

    static void tell(Sentences s) {
        pilots(s);
        crews(s);
        calms(s);
        denials(s);
        everyDenial(s);
        causes(s);
        undo(s);
        unaffected(s);
        unchanged(s);
        order(s);
    }

    private static void pilots(Sentences s) {
        s.section("Terms, Pilots");
        s.test("At most 6 pilots exist, indexed from 0 in the order in which they came; when a pilot leaves, the "
                + "indices of the later ones decrease by 1.", () -> {
            BalloonHarbour h = new BalloonHarbour();
            for (int pilot = 0; pilot < 6; pilot++) {
                int p = pilot;
                s.due("no pilot " + p + " yet", BAD_INDEX, () -> h.isOnDuty(p, 0));
                s.due("index of pilot " + p, p, () -> h.addPilot(1, p, p));
            }
            s.due("a seventh pilot", DENIED, () -> h.addPilot(1, 6, 6));
            s.due("no index before 0", BAD_INDEX, () -> h.isOnDuty(-1, 0));
            dutiesAre(s, h, "all have come", 0, 1, 2, 3, 4, 5);
            h.removePilot(5);
            dutiesAre(s, h, "the last one left", 0, 1, 2, 3, 4);
            h.removePilot(0);
            dutiesAre(s, h, "the first one left", 1, 2, 3, 4);
            h.removePilot(1);
            dutiesAre(s, h, "a middle one left", 1, 3, 4);
            h.addPilot(1, 9, 9);
            dutiesAre(s, h, "one more came", 1, 3, 4, 9);
        });
        s.test("A pilot has a weight from 1 to 30 and a duty from one hour of the day to another one, both included; "
                + "if the second hour is less than the first one, the duty goes on over midnight.", () -> {
            BalloonHarbour h = new BalloonHarbour();
            s.due("weight 0", BAD_ARGUMENT, () -> h.addPilot(0, 8, 16));
            s.due("weight 31", BAD_ARGUMENT, () -> h.addPilot(31, 8, 16));
            s.due("weight 1", 0, () -> h.addPilot(1, 8, 16));
            s.due("weight 30", 1, () -> h.addPilot(30, 22, 6));
            Checks.run(h, "pilot 1 23-0;pilot 1 0-23;pilot 1 13-12;pilot 1 7-7");
            for (int hour = 0; hour < 24; hour++) {
                int t = hour;
                s.due("from 8 to 16 at " + t, t >= 8 && t <= 16, () -> h.isOnDuty(0, t));
                s.due("from 22 over midnight to 6 at " + t, t >= 22 || t <= 6, () -> h.isOnDuty(1, t));
                s.due("from 23 over midnight to 0 at " + t, t == 23 || t == 0, () -> h.isOnDuty(2, t));
                s.due("from 0 to 23 at " + t, true, () -> h.isOnDuty(3, t));
                s.due("from 13 over midnight to 12 at " + t, true, () -> h.isOnDuty(4, t));
                s.due("from 7 to 7 at " + t, t == 7, () -> h.isOnDuty(5, t));
            }
        });
    }

    /** The pilots are those who are on duty in these hours, which are less than 10. */
    private static void dutiesAre(Sentences s, BalloonHarbour h, String what, int... hours) {
        for (int pilot = 0; pilot < hours.length; pilot++) {
            int p = pilot;
            for (int hour = 0; hour < 10; hour++) {
                int t = hour;
                s.due(what + ": pilot " + p + " at " + t, t == hours[p], () -> h.isOnDuty(p, t));
            }
        }
        s.due(what + ": behind the last one", BAD_INDEX, () -> h.isOnDuty(hours.length, 0));
    }

    private static void crews(Sentences s) {
        s.test("A pilot who is on duty in the present hour of the day can crew a balloon whose spare lift is at least "
                + "the weight of the pilot.", () -> {
            BalloonHarbour h = Checks.after("moor 2 30 5 60;pilot 29 0-0;pilot 30 0-0;pilot 1 1-0",
                    "pilot 1 1-1;pilot 1 23-23");
            s.due("spare lift greater by 1, string short", true, () -> h.canCrew(0, 2));
            s.due("spare lift equal", true, () -> h.canCrew(1, 2));
            h.load(2, 1);
            s.due("spare lift equal, with a bag", true, () -> h.canCrew(0, 2));
            s.due("spare lift less by 1", false, () -> h.canCrew(1, 2));
            s.due("last hour of the duty", true, () -> h.canCrew(2, 2));
            s.due("one hour before the duty", false, () -> h.canCrew(3, 2));
            s.due("one hour after the duty", false, () -> h.canCrew(4, 2));
            h.pass(1);
            s.due("first hour of the duty", true, () -> h.canCrew(3, 2));
            h.pass(46);
            s.due("hour 23 of the second day", true, () -> h.canCrew(4, 2));
        });
        s.test("Each pilot crews at most one balloon, and each balloon is crewed by at most one pilot.", () -> {
            crewed(s, "one pilot, two balloons", 1, "pilot 1 0-0;moor 0 9 9 9;moor 9 9 9 9");
            crewed(s, "two pilots, one balloon", 1, "pilot 1 0-0;pilot 1 0-0;moor 5 9 9 9");
            crewed(s, "two pilots, two balloons", 2, "pilot 1 0-0;pilot 1 0-0;moor 5 9 9 9;moor 0 9 9 9");
            crewed(s, "a pilot, no balloon", 0, "pilot 1 0-0");
            crewed(s, "a balloon, no pilot", 0, "moor 0 9 9 9");
        });
    }

    private static void crewed(Sentences s, String what, int want, String text) {
        BalloonHarbour h = Checks.after(text);
        s.due(what, want, h::mostCrewed);
        s.due(what + " by sets", want, h::mostCrewedBySets);
    }

    private static void calms(Sentences s) {
        s.section("Terms, Calms");
        s.test("A calm up to a strength of wind is a number of hours of the day that follow one another, where hour 0 "
                + "follows hour 23, in which no wind is stronger; the strength of a wind is the wind without sign.",
                () -> {
            BalloonHarbour h = Checks.after("wind 5=3;wind 15=-3");
            calm(s, h, "16 to 4 over midnight", 2, 13);
            calm(s, h, "wind and wind without sign equal to the strength", 3, 24);
            calm(s, Checks.after("wind 0=1"), "1 to 23", 0, 23);
            calm(s, Checks.after("wind 23=1"), "0 to 22", 0, 23);
            calm(s, Checks.after("wind 23=-1;wind 0=-1"), "1 to 22", 0, 22);
            calm(s, Checks.after("wind 11=-1;wind 22=1"), "23 to 10", 0, 12);
            calm(s, Checks.after("wind 1=1;wind 13=1"), "14 to 0", 0, 11);
        });
        s.test("A calm has at most 24 hours.", () -> {
            BalloonHarbour h = new BalloonHarbour();
            calm(s, h, "no wind at all", 0, 24);
            calm(s, h, "no wind at all", 9, 24);
            for (int hour = 0; hour < 24; hour++) {
                h.setWind(hour, hour % 2 == 0 ? 9 : -9);
            }
            calm(s, h, "no hour without stronger wind", 8, 0);
            calm(s, h, "all hours as strong", 9, 24);
        });
    }

    private static void calm(Sentences s, BalloonHarbour h, String what, int strength, int want) {
        s.due(what, want, () -> h.longestCalm(strength));
        s.due(what + " by trying", want, () -> h.longestCalmByTrying(strength));
    }

    private static void denials(Sentences s) {
        s.section("Terms, Denials");
        s.test("Some calls are denied for a reason, which has a number and a detail.", () -> {
            s.denied("moor", 2, 40, h -> h.moor(Busy.FULL, 1, 1, 1));
            s.denied("load", 1, 6, h -> h.load(Busy.FULL, 1));
            s.denied("rise", 4, 8, h -> h.rise(Busy.LOADED, 8));
            s.denied("setWind", 5, 9, h -> h.setWind(23, 9));
            s.denied("addPilot", 1, 6, h -> h.addPilot(1, 0, 0));
        });
        s.test("Each method lists its possible denials in the order in which they are checked.", () -> {
            // Only rise has two; as the bags of a reached height are a drop set, never both hold.
            s.denied("the height is reached", 4, 8, h -> h.rise(Busy.LOADED, 8));
            s.denied("no drop set", 3, 20, h -> h.rise(Busy.LOADED, 21));
            s.denied("the height of the string is reached", 4, 40, h -> h.rise(Busy.FULL, 40));
        });
        s.test("Denial 1: a limit is reached; the detail is the limit.", () -> {
            BalloonHarbour h = Checks.after("moor 1 99 9 60;load 1 1;load 1 1;load 1 1;load 1 1;load 1 1");
            s.due("the sixth bag", 6, () -> h.load(1, 1));
            s.due("the seventh bag", DENIED, () -> h.load(1, 1));
            s.denial(h, 1, 6);
            BalloonHarbour g = Checks.after("moor 1 99 9 60;pilot 1 0-0;pilot 1 0-0;pilot 1 0-0",
                    "pilot 1 0-0;pilot 1 0-0");
            s.due("the sixth pilot", 5, () -> g.addPilot(1, 0, 0));
            s.due("the seventh pilot", DENIED, () -> g.addPilot(1, 0, 0));
            s.denial(g, 1, 6);
        });
        s.test("Denial 2: a balloon is moored on the berth; the detail is its height.", () -> {
            BalloonHarbour h = Checks.after("moor 0 50 40 60;moor 9 7 40 60;load 9 7");
            s.due("first berth", DENIED, () -> h.moor(0, 1, 1, 1));
            s.denial(h, 2, 40);
            s.due("last berth, height 0", DENIED, () -> h.moor(9, 1, 1, 1));
            s.denial(h, 2, 0);
        });
    }

    private static void everyDenial(Sentences s) {
        s.test("Denial 3: there is no drop set; the detail is the height without any bags.", () -> {
            BalloonHarbour h = Checks.after("moor 0 20 40 60;load 0 5;moor 1 50 19 60;load 1 20;load 1 20");
            s.due("1 above the lift", DENIED, () -> h.rise(0, 21));
            s.denial(h, 3, 20);
            s.due("the lift", 1, () -> h.rise(0, 20));
            s.due("1 above the string", DENIED, () -> h.rise(1, 20));
            s.denial(h, 3, 19);
            s.due("the string", 1, () -> h.rise(1, 19));
            s.due("1 above the lift, no bags", DENIED, () -> h.rise(0, 21));
            s.denial(h, 3, 20);
        });
        s.test("Denial 4: the height is reached already; the detail is the present height.", () -> {
            BalloonHarbour h = Checks.after("moor 0 20 40 60;load 0 5");
            s.due("below the height", DENIED, () -> h.rise(0, 1));
            s.denial(h, 4, 15);
            h.load(0, 1);
            s.due("the height", DENIED, () -> h.rise(0, 14));
            s.denial(h, 4, 14);
            s.due("1 above the height", 1, () -> h.rise(0, 15));
        });
        s.test("Denial 5: the value is the present one; the detail is this value.", () -> {
            BalloonHarbour h = Checks.after("wind 3=9;wind 23=-9");
            s.due("no wind", DENIED, () -> h.setWind(0, 0));
            s.denial(h, 5, 0);
            s.due("the strongest wind", DENIED, () -> h.setWind(3, 9));
            s.denial(h, 5, 9);
            s.due("the strongest wind back", DENIED, () -> h.setWind(23, -9));
            s.denial(h, 5, -9);
            s.due("the wind of another hour", 9, () -> h.setWind(3, -9));
        });
        s.test("Denial 6: a command of a text failed; the detail is the index of the command, from 0.", () -> {
            textDenied(s, "cast 1;wait 1", 0, 7);
            textDenied(s, "wait 1;cast 1", 1, 7);
            textDenied(s, "wait 1;wait 1;wait 1;wait 1;wait 1;wait 1;wait 1;cast 1", 7, 7);
            textDenied(s, "wait 1;cast 1;cast 2", 1, 7);
        });
    }

    /** On a new harbour. */
    private static void textDenied(Sentences s, String text, int index, int cause) {
        BalloonHarbour h = new BalloonHarbour();
        s.due(text, DENIED, () -> Checks.run(h, text));
        s.due(text + ": number", 6, h::denial);
        s.due(text + ": detail", index, h::denialDetail);
        s.due(text + ": cause", cause, h::denialCause);
        s.due(text + ": what is then", State.of(new BalloonHarbour()), () -> State.of(h));
    }

    private static void causes(Sentences s) {
        s.test("Only denial 6 has a cause: the denial of the failed command with its detail, or denial 7 with detail 0 "
                + "if the command failed with an exception other than UnsupportedOperationException.", () -> {
            textDenied(s, "moor 0 9 9 9;moor 0 9 9 9", 1, 2);
            textDenied(s, "moor 0 9 9 9;rise 0 9", 1, 4);
            textDenied(s, "moor 0 9 9 9;rise 0 10", 1, 3);
            textDenied(s, "wind 0=0", 0, 5);
            textDenied(s, "wait 0", 0, 7);
            textDenied(s, "drop 0 0", 0, 7);
            textDenied(s, "moor 0 9 9 9;drop 0 0", 1, 7);
            textDenied(s, "leave 0", 0, 7);
            BalloonHarbour h = Busy.harbour();
            Busy.fail(h, "t 1;load 0 1");
            s.due("a seventh bag", 1, h::denialCause);
            Busy.fail(h, "pilot 1 0-0");
            s.due("a seventh pilot", 1, h::denialCause);
            s.due("denied without a text", DENIED, () -> h.setWind(1, 4));
            s.denial(h, 5, 4);
        });
        s.test("The number, the detail and the cause of the latest denial are kept until the next denial.", () -> {
            BalloonHarbour h = Busy.harbour();
            h.pass(1);
            h.undo();
            s.due("another exception", BAD_ARGUMENT, () -> h.pass(0));
            s.due("no such pilot", BAD_INDEX, () -> h.removePilot(6));
            s.due("no such balloon", NO_ELEMENT, () -> h.castOff(Busy.EMPTY));
            s.due("no text", BAD_ARGUMENT, h::execute);
            s.due("a text that works", 1, () -> Checks.run(h, "wait 1"));
            s.due("kept number", 6, h::denial);
            s.due("kept detail", 1, h::denialDetail);
            s.due("kept cause", 7, h::denialCause);
            s.due("the next denial", DENIED, () -> h.load(Busy.FULL, 1));
            s.denial(h, 1, 6);
        });
    }

    private static void undo(Sentences s) {
        s.section("Terms, Undo");
        s.test("The calls of the methods to which commands correspond, and of execute, that do not throw an exception "
                + "are the changes.", () -> {
            BalloonHarbour h = new BalloonHarbour();
            change(s, h, 1, "moor", () -> h.moor(3, 40, 30, 60));
            change(s, h, 2, "load", () -> h.load(3, 20));
            change(s, h, 3, "load", () -> h.load(3, 9));
            change(s, h, 4, "drop", () -> h.drop(3, 1));
            change(s, h, 5, "rise", () -> h.rise(3, 21));
            change(s, h, 6, "setWind", () -> h.setWind(1, 1));
            change(s, h, 7, "pass", () -> h.pass(1));
            change(s, h, 8, "addPilot", () -> h.addPilot(1, 0, 0));
            BalloonHarbour g = Checks.after("moor 3 40 20 60;pilot 1 0-0");
            change(s, g, 2, "removePilot", () -> g.removePilot(0));
            change(s, g, 3, "castOff", () -> g.castOff(3));
            change(s, g, 4, "execute, of two commands", () -> Checks.run(g, "wait 1;wait 1"));
            Busy.fail(g, "wait 1;cast 1");
            s.due("after a text that was denied", 4, g::undoCount);
            Busy.fail(g, "wait 1;");
            s.due("after a text that does not match", 4, g::undoCount);
            Busy.refuse(() -> g.setWind(0, 0));
            s.due("after a denial", 4, g::undoCount);
            Busy.refuse(() -> g.pass(0));
            s.due("after an exception", 4, g::undoCount);
        });
        s.test("The latest 8 changes can be undone; older ones are forgotten.", () -> {
            BalloonHarbour h = new BalloonHarbour();
            for (int change = 1; change <= 9; change++) {
                h.pass(1);
                s.due("changes of " + change, Math.min(change, 8), h::undoCount);
            }
            for (int left = 7; left >= 0; left--) {
                s.due("undo of one of eight", left, h::undo);
                s.due("hour after it", left + 1, h::hour);
            }
            s.due("the ninth is forgotten", BAD_STATE, h::undo);
            s.due("hour after all", 1, h::hour);
        });
    }

    private static void change(Sentences s, BalloonHarbour h, int count, String what, Runnable call) {
        call.run();
        s.due("after " + what, count, h::undoCount);
    }

    private static void unaffected(Sentences s) {
        s.test("The text buffer, the fault position, the output line and the latest denial are affected neither by "
                + "undo nor by snapshots.", () -> {
            BalloonHarbour h = Busy.harbour();
            s.due("all but the text", Busy.LINE + " 5 6 1 7", () -> besidesChanges(h));
            h.undo();
            s.due("after undo", Busy.LINE + " 5 6 1 7", () -> besidesChanges(h));
            h.saveSnapshot();
            s.due("after saveSnapshot", Busy.LINE + " 5 6 1 7", () -> besidesChanges(h));
            h.restoreSnapshot();
            s.due("after restoreSnapshot", Busy.LINE + " 5 6 1 7", () -> besidesChanges(h));
            s.due("length of the text", Busy.TEXT.length() + 1, () -> h.feed('t'));
            s.due("the text", 1, () -> Checks.run(h, " 1"));
            BalloonHarbour g = new BalloonHarbour();
            g.saveSnapshot();
            g.moor(2, 30, 20, 10);
            g.writeBalloon(2);
            Busy.fail(g, "x");
            Busy.fail(g, "cast 7");
            g.feed('w');
            g.restoreSnapshot();
            s.due("what was not there when it was saved", "2:20/20! 0 6 0 7", () -> besidesChanges(g));
            s.due("what was fed after it was saved", 2, () -> g.feed('a'));
        });
    }

    private static String besidesChanges(BalloonHarbour h) {
        return Whole.lineOf(h) + ' ' + h.faultPosition() + ' ' + h.denial() + ' ' + h.denialDetail() + ' '
                + h.denialCause();
    }

    private static void unchanged(Sentences s) {
        s.section("Terms, Exceptions");
        s.test("A method that throws an exception does not change the state, unless its documentation says otherwise.",
                () -> {
            s.refused("moor", BAD_ARGUMENT, h -> h.moor(1, 1, 1, 61));
            s.refused("castOff", NO_ELEMENT, h -> h.castOff(1));
            s.refused("load, no balloon", NO_ELEMENT, h -> h.load(1, 1));
            s.refused("load, no weight", BAD_ARGUMENT, h -> h.load(Busy.LOADED, 21));
            s.refused("drop, no balloon", NO_ELEMENT, h -> h.drop(1, 0));
            s.refused("drop, no bag", BAD_INDEX, h -> h.drop(Busy.LOADED, 2));
            s.refused("rise, no balloon", NO_ELEMENT, h -> h.rise(1, 1));
            s.refused("rise, no height", BAD_ARGUMENT, h -> h.rise(Busy.LOADED, 41));
            s.refused("setWind", BAD_ARGUMENT, h -> h.setWind(24, 1));
            s.refused("addPilot", BAD_ARGUMENT, h -> h.addPilot(1, 0, 24));
            s.refused("removePilot", BAD_INDEX, h -> h.removePilot(6));
            s.refused("pass", BAD_ARGUMENT, h -> h.pass(49));
            s.refused("writeBalloon", NO_ELEMENT, h -> h.writeBalloon(1));
            BalloonHarbour full = Busy.harbour();
            for (int length = Busy.TEXT.length() + 1; length <= 60; length++) {
                s.due("room in the buffer", length, () -> full.feed(' '));
            }
            s.due("feed", BAD_STATE, () -> full.feed(' '));
            s.due("feed once more", BAD_STATE, () -> full.feed(' '));
            s.due("the full text", BAD_ARGUMENT, full::execute);
            s.due("its fault position", 3, full::faultPosition);
            BalloonHarbour fresh = new BalloonHarbour();
            s.due("undo", BAD_STATE, fresh::undo);
            s.due("restoreSnapshot", BAD_STATE, fresh::restoreSnapshot);
            s.due("undo, once more", BAD_STATE, fresh::undo);
            s.due("what is then", State.of(new BalloonHarbour()), () -> State.of(fresh));
        });
    }

    private static void order(Sentences s) {
        s.test("If the conditions of several exceptions hold, the one that is documented first is thrown.", () -> {
            s.refused("moor, range before denial", BAD_ARGUMENT, h -> h.moor(Busy.FULL, 100, 1, 1));
            s.refused("load, balloon before weight", NO_ELEMENT, h -> h.load(1, 21));
            s.refused("load, weight before denial", BAD_ARGUMENT, h -> h.load(Busy.FULL, 21));
            s.refused("drop, balloon before bag", NO_ELEMENT, h -> h.drop(1, 6));
            s.refused("rise, balloon before height", NO_ELEMENT, h -> h.rise(1, 41));
            s.refused("rise, height before denial", BAD_ARGUMENT, h -> h.rise(Busy.FULL, 0));
            s.refused("rise, height before denial", BAD_ARGUMENT, h -> h.rise(Busy.LOADED, 41));
            s.refused("bagWeight, balloon before bag", NO_ELEMENT, h -> h.bagWeight(1, 6));
            s.refused("fewestDrops, height before balloon", BAD_ARGUMENT, h -> h.fewestDrops(1, 41));
            s.refused("fewestDropsBySets, height before balloon", BAD_ARGUMENT, h -> h.fewestDropsBySets(1, 41));
            s.refused("dropWeight, height before balloon", BAD_ARGUMENT, h -> h.dropWeight(1, 41));
            s.refused("addPilot, range before denial", BAD_ARGUMENT, h -> h.addPilot(31, 0, 0));
            s.refused("isOnDuty, pilot before hour", BAD_INDEX, h -> h.isOnDuty(6, 24));
            s.refused("canCrew, pilot before balloon", BAD_INDEX, h -> h.canCrew(6, 1));
            BalloonHarbour h = new BalloonHarbour();
            s.due("execute, grammar before denial", BAD_ARGUMENT, () -> Checks.run(h, "cast 1;wait 1;"));
            s.due("execute, no denial", NO_ELEMENT, h::denial);
        });
    }
}
