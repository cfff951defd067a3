import java.util.ArrayList;
import java.util.List;

/**
 * All that calls can tell of a busy harbour after one more call, each as one text. For each of the parts the harbour
 * is made anew, as the document promises nothing after 512 calls.
 */
final class Whole {
    private interface Part {
        String of(BalloonHarbour h);
    }

    private Whole() {
    }

    /** Everything that changes can change, now, after each undo and after restoreSnapshot. */
    static String changes(Sentences.Act call) {
        List<Part> parts = new ArrayList<>();
        parts.add(State::of);
        parts.add(Whole::written);
        parts.add(h -> "changes " + h.undoCount());
        for (int steps = 1; steps <= 9; steps++) {
            int count = steps;
            parts.add(h -> undone(h, count));
        }
        parts.add(h -> "snapshot " + answer(h::restoreSnapshot) + ' ' + State.of(h));
        return told(call, parts);
    }

    static String denial(Sentences.Act call) {
        return told(call, List.of(h -> "" + answer(h::denial) + ' ' + answer(h::denialDetail) + ' '
                + answer(h::denialCause)));
    }

    /** What no change changes: the fault position, the output line and the text buffer. */
    static String besides(Sentences.Act call) {
        return told(call, List.of(h -> "fault " + answer(h::faultPosition) + ", line " + lineOf(h),
                h -> "text " + answer(() -> h.feed('t')) + ' ' + answer(() -> Checks.run(h, " 1")) + ' '
                        + answer(h::faultPosition) + ' ' + State.of(h)));
    }

    private static String told(Sentences.Act call, List<Part> parts) {
        StringBuilder told = new StringBuilder();
        for (Part part : parts) {
            BalloonHarbour h = Busy.harbour();
            answer(() -> call.on(h));
            told.append("\n  ").append(part.of(h));
        }
        return told.toString();
    }

    private static String undone(BalloonHarbour h, int steps) {
        StringBuilder undone = new StringBuilder("undo");
        for (int step = 0; step < steps; step++) {
            undone.append(' ').append(answer(h::undo));
        }
        return undone.append(' ').append(State.of(h)).toString();
    }

    /** The lines of all balloons, which tell their strings too. */
    private static String written(BalloonHarbour h) {
        StringBuilder written = new StringBuilder();
        for (int berth = 0; berth < 10; berth++) {
            int b = berth;
            written.append(h.isMoored(b) ? answer(() -> h.writeBalloon(b)) + " " + lineOf(h) + ' ' : "");
        }
        return written.toString();
    }

    static String lineOf(BalloonHarbour h) {
        StringBuilder line = new StringBuilder();
        // No line is as long as 60.
        for (int index = 0; index < 60; index++) {
            int i = index;
            Object character = answer(() -> h.lineCharacter(i));
            if (!(character instanceof Character)) {
                break;
            }
            line.append(character);
        }
        return line.toString();
    }

    private static Object answer(Checks.Call call) {
        try {
            return call.answer();
        } catch (RuntimeException e) {
            return e.getClass().getSimpleName();
        }
    }
}
