import java.util.NoSuchElementException;

/** Promises 48 to 54: the latest denial, undo and snapshots. */
final class UndoSentences {
    private static final String NOT_DENIED = "Throws `NoSuchElementException` if nothing was denied yet";
    private static final Class<?> BAD_STATE = IllegalStateException.class;
    private static final Class<?> DENIED = UnsupportedOperationException.class;
    private static final Class<?> NO_ELEMENT = NoSuchElementException.class;

    private UndoSentences() {
    }

    static void tell(Sentences s) {
        denial(s);
        denialDetail(s);
        denialCause(s);
        undo(s);
        undoCount(s);
        saveSnapshot(s);
        restoreSnapshot(s);
    }

    private static void denial(Sentences s) {
        s.section("Promise 48");
        s.test("Returns the number of the latest denial.", () -> {
            BalloonHarbour h = Checks.after("moor 1 9 9 9");
            Busy.refuse(() -> h.moor(1, 9, 9, 9));
            s.due("the first one", 2, h::denial);
            Busy.refuse(() -> h.setWind(0, 0));
            s.due("the latest one", 5, h::denial);
            Busy.refuse(() -> h.setWind(0, 10));
            s.due("an exception is no denial", 5, h::denial);
        });
        s.test("Returns the number, 1 to 6.", () -> {
            BalloonHarbour h = Busy.harbour();
            s.due("6", 6, h::denial);
            Busy.refuse(() -> h.load(Busy.FULL, 1));
            s.due("1", 1, h::denial);
            Busy.refuse(() -> h.moor(Busy.FULL, 1, 1, 1));
            s.due("2", 2, h::denial);
            Busy.refuse(() -> h.rise(Busy.LOADED, 40));
            s.due("3", 3, h::denial);
            Busy.refuse(() -> h.rise(Busy.LOADED, 1));
            s.due("4", 4, h::denial);
            Busy.refuse(() -> h.setWind(0, 0));
            s.due("5", 5, h::denial);
            Busy.refuse(() -> h.addPilot(1, 0, 0));
            s.due("1 again", 1, h::denial);
            s.onlyTells(6, BalloonHarbour::denial);
        });
        s.test(NOT_DENIED, () -> notDenied(s, BalloonHarbour::denial));
    }

    private static void notDenied(Sentences s, Sentences.Act call) {
        BalloonHarbour h = new BalloonHarbour();
        s.due("a new harbour", NO_ELEMENT, () -> call.on(h));
        h.moor(1, 9, 9, 9);
        Busy.refuse(() -> h.moor(1, 9, 9, 0));
        Busy.refuse(() -> h.load(1, 0));
        Busy.refuse(() -> h.castOff(2));
        Busy.refuse(() -> h.drop(1, 0));
        Busy.refuse(() -> h.removePilot(0));
        Busy.refuse(h::execute);
        Busy.refuse(h::restoreSnapshot);
        Busy.refuse(() -> h.lineCharacter(0));
        Busy.refuse(() -> h.fewestDrops(1, 10));
        s.due("exceptions that are no denials", NO_ELEMENT, () -> call.on(h));
        Busy.refuse(() -> h.moor(1, 9, 9, 9));
        s.due("denied then", 2, h::denial);
    }

    private static void denialDetail(Sentences s) {
        s.section("Promise 49");
        s.test("Returns the detail of the latest denial.", () -> {
            BalloonHarbour h = Checks.after("moor 1 9 9 9");
            Busy.refuse(() -> h.moor(1, 9, 9, 9));
            s.due("the first one", 9, h::denialDetail);
            h.load(1, 3);
            s.due("as it was when the call was denied", 9, h::denialDetail);
            Busy.refuse(() -> h.moor(1, 9, 9, 9));
            s.due("the latest one", 6, h::denialDetail);
        });
        s.test("Returns the detail.", () -> {
            BalloonHarbour h = Checks.after("wind 5=-9;moor 1 99 40 60");
            Busy.refuse(() -> h.setWind(5, -9));
            s.due("the least one", -9, h::denialDetail);
            Busy.refuse(() -> h.moor(1, 1, 1, 1));
            s.due("the greatest one", 40, h::denialDetail);
            Busy.fail(h, "cast 2");
            s.due("0", 0, h::denialDetail);
            s.onlyTells(1, BalloonHarbour::denialDetail);
        });
        s.test(NOT_DENIED, () -> notDenied(s, BalloonHarbour::denialDetail));
    }

    private static void denialCause(Sentences s) {
        s.section("Promise 50");
        s.test("Returns the number of the cause of the latest denial.", () -> {
            BalloonHarbour h = Checks.after("moor 1 9 9 9");
            Busy.fail(h, "wait 1;moor 1 9 9 9");
            s.due("the first one", 2, h::denialCause);
            Busy.fail(h, "moor 1 9 9 0");
            s.due("the latest one", 7, h::denialCause);
            Busy.fail(h, "moor 1 9 9");
            s.due("no text is no denial", 7, h::denialCause);
        });
        s.test("Returns the number, 1 to 5 or 7.", () -> {
            cause(s, "t 1;load 0 1", 1);
            cause(s, "t 1;pilot 1 0-0", 1);
            cause(s, "t 1;moor 0 1 1 1", 2);
            cause(s, "t 1;rise 2 40", 3);
            cause(s, "t 1;rise 2 1", 4);
            cause(s, "t 1;wind 1=4", 5);
            cause(s, "t 1;moor 0 0 1 1", 7);
            cause(s, "t 1;cast 1", 7);
            cause(s, "t 1;load 1 1", 7);
            cause(s, "t 1;load 2 0", 7);
            cause(s, "t 1;drop 1 0", 7);
            cause(s, "t 1;drop 2 2", 7);
            cause(s, "t 1;rise 1 1", 7);
            cause(s, "t 1;rise 2 41", 7);
            cause(s, "t 1;wind 24=1", 7);
            cause(s, "t 0", 7);
            cause(s, "t 49", 7);
            cause(s, "t 1;pilot 31 0-0", 7);
            cause(s, "t 1;pilot 1 24-0", 7);
            cause(s, "t 1;pilot 1 0-24", 7);
            cause(s, "t 1;leave 6", 7);
            s.onlyTells(7, BalloonHarbour::denialCause);
        });
        s.test("Throws `NoSuchElementException` if nothing was denied yet, or the latest denial has no cause", () -> {
            notDenied(s, BalloonHarbour::denialCause);
            BalloonHarbour h = Busy.harbour();
            s.due("a cause", 7, h::denialCause);
            Busy.refuse(() -> h.load(Busy.FULL, 1));
            s.due("1 has none", NO_ELEMENT, h::denialCause);
            Busy.refuse(() -> h.moor(Busy.FULL, 1, 1, 1));
            s.due("2 has none", NO_ELEMENT, h::denialCause);
            Busy.refuse(() -> h.rise(Busy.LOADED, 40));
            s.due("3 has none", NO_ELEMENT, h::denialCause);
            Busy.refuse(() -> h.rise(Busy.LOADED, 1));
            s.due("4 has none", NO_ELEMENT, h::denialCause);
            Busy.refuse(() -> h.setWind(0, 0));
            s.due("5 has none", NO_ELEMENT, h::denialCause);
            s.due("denial 5 is kept", 5, h::denial);
        });
    }

    /** Executes the text of a busy harbour with this end, of which the last command fails. */
    private static void cause(Sentences s, String end, int want) {
        BalloonHarbour h = Busy.harbour();
        s.due(end, DENIED, () -> Checks.run(h, end));
        s.due(end + ": cause", want, h::denialCause);
    }

    private static void undo(Sentences s) {
        s.section("Promise 51");
        s.test("Undoes the latest change that can be undone.", () -> {
            undone(s, "moor", h -> h.moor(Busy.EMPTY, 9, 9, 9));
            undone(s, "castOff", h -> h.castOff(Busy.FULL));
            undone(s, "load", h -> h.load(Busy.LOADED, 20));
            undone(s, "drop", h -> h.drop(Busy.FULL, 0));
            undone(s, "rise", h -> h.rise(Busy.LOADED, 20));
            undone(s, "setWind", h -> h.setWind(1, -9));
            undone(s, "addPilot and removePilot", h -> {
                h.removePilot(0);
                h.addPilot(1, 2, 3);
                return h.undo();
            });
            undone(s, "pass, with a burst", h -> h.pass(1));
            undone(s, "pass", h -> h.pass(48));
            undone(s, "execute", h -> Checks.run(h, "t 1;cast 0;leave 0;wind 0=1"));
            BalloonHarbour h = Checks.after("wait 1");
            h.pass(2);
            h.pass(4);
            h.undo();
            s.due("the latest one", 3, h::hour);
            h.undo();
            s.due("the one before", 1, h::hour);
            h.pass(8);
            s.due("one more change", 9, h::hour);
            h.undo();
            s.due("the latest one", 1, h::hour);
            h.undo();
            s.due("all", 0, h::hour);
        });
        s.test("Returns the number of changes that can be undone afterwards.", () -> {
            BalloonHarbour h = Busy.harbour();
            for (int left = 7; left >= 0; left--) {
                s.due("one less", left, h::undo);
            }
            h.pass(1);
            s.due("the only one", 0, h::undo);
        });
        s.test("Throws `IllegalStateException` if there is none", () -> {
            BalloonHarbour h = new BalloonHarbour();
            s.due("a new harbour", BAD_STATE, h::undo);
            Busy.refuse(() -> h.pass(0));
            s.due("a refused call is no change", BAD_STATE, h::undo);
            h.saveSnapshot();
            h.feed('x');
            s.due("nor is a snapshot or a character", BAD_STATE, h::undo);
            h.pass(1);
            h.undo();
            s.due("undone already", BAD_STATE, h::undo);
            s.due("nothing happened", 0, h::hour);
            BalloonHarbour g = Checks.after("wait 1");
            for (int change = 2; change <= 9; change++) {
                g.pass(1);
            }
            for (int step = 0; step < 8; step++) {
                g.undo();
            }
            s.due("forgotten", BAD_STATE, g::undo);
            s.due("the hour after the forgotten one", 1, g::hour);
        });
    }

    /** After the change and undo, all is as before the change. */
    private static void undone(Sentences s, String what, Sentences.Act change) {
        BalloonHarbour h = Busy.harbour();
        change.on(h);
        h.undo();
        s.due(what, State.of(Busy.harbour()), () -> State.of(h));
    }

    private static void undoCount(Sentences s) {
        s.section("Promise 52");
        s.test("Returns the number of changes that can be undone.", () -> {
            BalloonHarbour h = new BalloonHarbour();
            s.due("none", 0, h::undoCount);
            for (int change = 1; change <= 20; change++) {
                h.pass(1);
                s.due("change " + change, Math.min(change, 8), h::undoCount);
            }
            h.undo();
            h.undo();
            s.due("two undone", 6, h::undoCount);
            Busy.refuse(() -> h.pass(0));
            s.due("a refused call", 6, h::undoCount);
            h.pass(1);
            s.due("one more", 7, h::undoCount);
            h.saveSnapshot();
            s.due("a snapshot", 7, h::undoCount);
            h.restoreSnapshot();
            s.due("restored", 0, h::undoCount);
            h.pass(1);
            s.due("one after it", 1, h::undoCount);
        });
        s.test("Returns the number of changes.", () -> s.onlyTells(8, BalloonHarbour::undoCount));
    }

    private static void saveSnapshot(Sentences s) {
        s.section("Promise 53");
        s.test("Saves a snapshot of everything that changes can change; it replaces an earlier snapshot.", () -> {
            saved(s, "moor", h -> h.moor(Busy.EMPTY, 9, 9, 9));
            saved(s, "castOff", h -> h.castOff(Busy.FULL));
            saved(s, "load", h -> h.load(Busy.LOADED, 20));
            saved(s, "drop", h -> h.drop(Busy.FULL, 0));
            saved(s, "rise", h -> h.rise(Busy.LOADED, 20));
            saved(s, "setWind", h -> h.setWind(1, -9));
            saved(s, "removePilot", h -> h.removePilot(0));
            saved(s, "addPilot", h -> h.removePilot(0) + h.addPilot(1, 2, 3));
            saved(s, "pass, with a burst", h -> h.pass(1));
            saved(s, "pass", h -> h.pass(48));
            saved(s, "execute", h -> Checks.run(h, "t 1;cast 0;leave 0;wind 0=1"));
            saved(s, "undo", BalloonHarbour::undo);
            BalloonHarbour h = new BalloonHarbour();
            h.saveSnapshot();
            h.pass(5);
            h.saveSnapshot();
            h.pass(7);
            h.restoreSnapshot();
            s.due("the earlier one is replaced", 5, h::hour);
        });
        s.test("Returns the number of balloons.", () -> {
            s.due("none", 0, () -> new BalloonHarbour().saveSnapshot());
            s.due("a busy harbour", 3, () -> Busy.harbour().saveSnapshot());
            BalloonHarbour h = Busy.harbour();
            h.saveSnapshot();
            s.due("no change", 8, h::undoCount);
            h.undo();
            h.undo();
            s.due("changes can be undone as before", 6, h::undoCount);
            s.due("bags after two are undone", 1, () -> h.bagWeight(Busy.FULL, 0));
        });
    }

    /** What is saved does not follow a later change, and comes back. */
    private static void saved(Sentences s, String what, Sentences.Act change) {
        BalloonHarbour h = Busy.harbour();
        h.saveSnapshot();
        change.on(h);
        h.restoreSnapshot();
        s.due(what + " after it", State.of(Busy.harbour()), () -> State.of(h));
        BalloonHarbour changed = Busy.harbour();
        change.on(changed);
        BalloonHarbour g = Busy.harbour();
        change.on(g);
        g.saveSnapshot();
        g.pass(48);
        g.restoreSnapshot();
        s.due(what + " before it", State.of(changed), () -> State.of(g));
    }

    private static void restoreSnapshot(Sentences s) {
        s.section("Promise 54");
        s.test("Restores the snapshot, which is kept.", () -> {
            BalloonHarbour h = Checks.after("moor 1 50 40 60;load 1 5");
            h.saveSnapshot();
            for (int time = 1; time <= 3; time++) {
                h.pass(10);
                h.load(1, 20);
                s.due("restored time " + time, 1, h::restoreSnapshot);
                s.due("hour, restored time " + time, 0, h::hour);
                s.due("ballast, restored time " + time, 5, () -> h.ballast(1));
                s.due("lift, restored time " + time, 50, () -> h.lift(1));
            }
            h.pass(1);
            h.undo();
            s.due("after an undo it is there, too", 1, h::restoreSnapshot);
        });
        s.test("No change can be undone afterwards.", () -> {
            BalloonHarbour h = Busy.harbour();
            h.restoreSnapshot();
            s.due("none", 0, h::undoCount);
            s.due("undo", BAD_STATE, h::undo);
            int hour = h.hour();
            h.pass(1);
            s.due("only what comes later", 0, h::undo);
            s.due("hour", hour, h::hour);
            s.due("no more", BAD_STATE, h::undo);
        });
        s.test("Returns the number of balloons afterwards.", () -> {
            BalloonHarbour h = new BalloonHarbour();
            h.saveSnapshot();
            Checks.run(h, "moor 0 9 9 9;moor 9 9 9 9");
            s.due("none", 0, h::restoreSnapshot);
            Checks.run(h, "moor 0 9 9 9;moor 9 9 9 9");
            h.saveSnapshot();
            h.castOff(0);
            s.due("two", 2, h::restoreSnapshot);
        });
        s.test("Throws `IllegalStateException` if there is no snapshot", () -> {
            BalloonHarbour h = Checks.after("moor 0 9 9 9", "wait 3");
            s.due("none was saved", BAD_STATE, h::restoreSnapshot);
            s.due("hour", 3, h::hour);
            s.due("balloons", 1, h::balloonCount);
            s.due("changes", 2, h::undoCount);
            h.saveSnapshot();
            s.due("saved", 1, h::restoreSnapshot);
        });
    }
}
