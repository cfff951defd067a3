/** Promises 51 to 54: undo and snapshots. */
public final class UndoTest {
    private static final Checks CHECKS = new Checks();

    public static void main(String[] args) {
        everyChange();
        changesAfterAText();
        limit();
        noChanges();
        unaffected();
        snapshots();
        CHECKS.finish();
    }

    private static void everyChange() {
        BalloonHarbour h = new BalloonHarbour();
        CHECKS.due("51 nothing", IllegalStateException.class, h::undo);
        CHECKS.due("52 nothing", 0, h::undoCount);
        Sentences.Act[] changes = {
            g -> g.moor(3, 25, 20, 10), g -> g.load(3, 20), g -> g.load(3, 9), g -> g.drop(3, 0),
            g -> g.rise(3, 20), g -> g.setWind(0, 4), g -> g.addPilot(5, 22, 6), g -> g.pass(5)};
        // The states are those of another harbour, so that neither of both needs more than 512 calls.
        BalloonHarbour other = new BalloonHarbour();
        String[] states = new String[changes.length];
        for (int i = 0; i < changes.length; i++) {
            states[i] = State.of(other);
            changes[i].on(other);
            changes[i].on(h);
            CHECKS.due("52", i + 1, h::undoCount);
        }
        CHECKS.due("33 burst", 1, h::bursts);
        for (int i = changes.length - 1; i >= 0; i--) {
            String want = states[i];
            CHECKS.due("51", i, h::undo);
            CHECKS.due("51 change " + i, want, () -> State.of(h));
        }
        CHECKS.due("51 none left", IllegalStateException.class, h::undo);
    }

    private static void changesAfterAText() {
        BalloonHarbour h = new BalloonHarbour();
        String before = State.of(h);
        Checks.run(h, "moor 3 40 20 10;load 3 4;pilot 4 1-2;pilot 5 3-4;wind 3=1");
        String whole = State.of(h);
        h.castOff(3);
        h.removePilot(0);
        CHECKS.due("51 leave", 2, h::undo);
        CHECKS.due("51 cast", 1, h::undo);
        CHECKS.due("51 as before", whole, () -> State.of(h));
        h.pass(1);
        CHECKS.due("40 burst with its bag", 4, h::lost);
        CHECKS.due("51 burst", 1, h::undo);
        CHECKS.due("51 as before", whole, () -> State.of(h));
        CHECKS.due("51 one text is one change", 0, h::undo);
        CHECKS.due("51 all", before, () -> State.of(h));
    }

    private static void limit() {
        BalloonHarbour h = new BalloonHarbour();
        for (int i = 1; i <= 20; i++) {
            h.pass(1);
            int want = Math.min(i, 8);
            CHECKS.due("52 at most 8", want, h::undoCount);
        }
        for (int left = 7; left >= 4; left--) {
            CHECKS.due("51", left, h::undo);
        }
        CHECKS.due("51 hour", 16, h::hour);
        h.pass(10);
        CHECKS.due("52 one more", 5, h::undoCount);
        for (int left = 4; left >= 0; left--) {
            CHECKS.due("51", left, h::undo);
        }
        CHECKS.due("51 older ones are forgotten", 12, h::hour);
        CHECKS.due("51 none left", IllegalStateException.class, h::undo);
        CHECKS.due("51 nothing happened", 12, h::hour);
    }

    private static void noChanges() {
        BalloonHarbour h = Checks.after("moor 3 40 20 10");
        CHECKS.due("denied", UnsupportedOperationException.class, () -> h.moor(3, 1, 1, 1));
        CHECKS.due("bag", IndexOutOfBoundsException.class, () -> h.drop(3, 0));
        CHECKS.due("denied", UnsupportedOperationException.class, () -> Checks.run(h, "wait 1;cast 1"));
        CHECKS.due("fault", IllegalArgumentException.class, () -> Checks.run(h, "wait"));
        h.writeBalloon(3);
        h.burstsAhead();
        h.saveSnapshot();
        CHECKS.due("52 only one change", 1, h::undoCount);
        // A refused text must not cost the oldest of eight changes.
        for (int i = 0; i < 8; i++) {
            h.pass(1);
        }
        CHECKS.due("denied", UnsupportedOperationException.class, () -> Checks.run(h, "wait 1;cast 1"));
        for (int i = 0; i < 8; i++) {
            h.undo();
        }
        CHECKS.due("51 all eight", 0, h::hour);
    }

    private static void unaffected() {
        BalloonHarbour h = Checks.after("moor 3 40 20 60");
        h.feed('w');
        h.feed('x');
        h.writeBalloon(3);
        h.saveSnapshot();
        h.undo();
        CHECKS.due("43 buffer after undo", 3, () -> h.feed('y'));
        CHECKS.due("47 line after undo", '3', () -> h.lineCharacter(0));
        h.restoreSnapshot();
        CHECKS.due("43 buffer after restore", 4, () -> h.feed('z'));
        CHECKS.due("44", IllegalArgumentException.class, h::execute);
        h.pass(1);
        h.undo();
        h.restoreSnapshot();
        CHECKS.due("45 kept", 1, h::faultPosition);
        CHECKS.due("47 kept", '3', () -> h.lineCharacter(0));
    }

    private static void snapshots() {
        BalloonHarbour h = new BalloonHarbour();
        CHECKS.due("54 none", IllegalStateException.class, h::restoreSnapshot);
        CHECKS.due("53 empty", 0, h::saveSnapshot);
        String empty = State.of(h);
        Checks.run(h, "moor 3 40 20 10;load 3 4;moor 4 50 9 9;load 4 7;load 4 8");
        Checks.run(h, "pilot 5 22-6;wind 4=-4;drop 4 0;wait 1");
        String later = State.of(h);
        CHECKS.due("52 before", 2, h::undoCount);
        CHECKS.due("54 back to empty", 0, h::restoreSnapshot);
        CHECKS.due("54 empty", empty, () -> State.of(h));
        CHECKS.due("54 nothing to undo", 0, h::undoCount);
        CHECKS.due("54 nothing to undo", IllegalStateException.class, h::undo);
        laterSnapshot(later);
    }

    private static void laterSnapshot(String later) {
        BalloonHarbour h = new BalloonHarbour();
        h.saveSnapshot();
        Checks.run(h, "moor 3 40 20 10;load 3 4;moor 4 50 9 9;load 4 7;load 4 8");
        Checks.run(h, "pilot 5 22-6;wind 4=-4;drop 4 0;wait 1");
        CHECKS.due("53 replaces", 1, h::saveSnapshot);
        CHECKS.due("53 keeps undo", 2, h::undoCount);
        h.castOff(4);
        h.pass(48);
        h.undo();
        h.undo();
        h.undo();
        CHECKS.due("54", 1, h::restoreSnapshot);
        CHECKS.due("54 all of it", later, () -> State.of(h));
        h.load(4, 1);
        h.removePilot(0);
        CHECKS.due("54 is kept", 1, h::restoreSnapshot);
        CHECKS.due("54 untouched by changes", later, () -> State.of(h));
    }
}
