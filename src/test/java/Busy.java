/** A harbour in which everything is in use. */
final class Busy {
    /** On this berth no balloon was ever moored. */
    static final int EMPTY = 1;
    static final int CAST_OFF = 4;
    static final int BURST = 5;
    /** Lift 99, string 40, strength 60, bags 2, 3, 4, 5, 6 and 20: height 40. */
    static final int FULL = 0;
    /** Lift 30, string 20, strength 10, bags 7 and 15: height 8. */
    static final int LOADED = 2;
    /** Lift 12, string 5, strength 3, no bags: height 5, so that it bursts in the next hour. */
    static final int HIGH = 9;
    static final String LINE = "2:8/20+7+15";
    /** What stands in the text buffer; with "t 1" it is a text. */
    static final String TEXT = "wai";

    private Busy() {
    }

    /**
     * Hour 1, six pilots, winds 4, -2 and 9 at 1, 2 and 23, eight changes that can be undone, fault position 5,
     * denial 6 of command 1 with cause 7; 69 loaded, of which 62 are aboard, 3 dropped and 4 lost.
     */
    static BalloonHarbour harbour() {
        BalloonHarbour h = new BalloonHarbour();
        h.moor(BURST, 50, 40, 9);
        h.load(BURST, 4);
        h.pass(1);
        h.moor(CAST_OFF, 9, 9, 9);
        h.load(CAST_OFF, 2);
        h.castOff(CAST_OFF);
        h.moor(FULL, 99, 40, 60);
        for (int weight = 1; weight <= 6; weight++) {
            h.load(FULL, weight);
        }
        h.moor(LOADED, 30, 20, 10);
        h.load(LOADED, 7);
        h.moor(HIGH, 12, 5, 3);
        h.setWind(1, 3);
        h.setWind(23, 9);
        h.addPilot(5, 22, 6);
        h.addPilot(30, 0, 23);
        h.addPilot(10, 1, 1);
        h.saveSnapshot();
        h.addPilot(20, 2, 3);
        h.addPilot(8, 8, 16);
        h.addPilot(1, 0, 1);
        Checks.run(h, "wind 1=4;wind 2=-2;load 2 15");
        h.drop(FULL, 0);
        h.load(FULL, 20);
        fail(h, "cast x");
        fail(h, "wait 1;leave 9");
        h.writeBalloon(LOADED);
        for (char character : TEXT.toCharArray()) {
            h.feed(character);
        }
        return h;
    }

    /** Executes a text that does not match the grammar, or is denied. */
    static void fail(BalloonHarbour h, String text) {
        refuse(() -> Checks.run(h, text));
    }

    /** Makes a call that is due to throw. */
    static void refuse(Checks.Call call) {
        try {
            call.answer();
        } catch (RuntimeException e) {
            return;
        }
        throw new IllegalStateException("this call should have thrown");
    }
}
