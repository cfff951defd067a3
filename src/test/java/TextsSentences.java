import java.util.NoSuchElementException;

/** "Terms, Texts", and promises 43 to 47: texts and output lines. */
final class TextsSentences {
    private static final Class<?> BAD_ARGUMENT = IllegalArgumentException.class;
    private static final Class<?> BAD_INDEX = IndexOutOfBoundsException.class;
    private static final Class<?> BAD_STATE = IllegalStateException.class;
    private static final Class<?> DENIED = UnsupportedOperationException.class;
    private static final Class<?> NO_ELEMENT = NoSuchElementException.class;

    private TextsSentences() {
    }

    static void tell(Sentences s) {
        buffer(s);
        grammar(s);
        commands(s);
        numbers(s);
        methods(s);
        faults(s);
        feed(s);
        execute(s);
        executeRefused(s);
        faultPosition(s);
        writeBalloon(s);
        lineCharacter(s);
    }

    private static void buffer(Sentences s) {
        s.section("Terms, Texts");
        s.test("The text buffer holds at most 60 characters.", () -> {
            BalloonHarbour h = new BalloonHarbour();
            String text = "moor 3 40 20 15;cast 3;moor 3 40 20 15;cast 3;wait 1;wait 10";
            s.due("the length of this text", 60, text::length);
            for (int length = 1; length <= 60; length++) {
                int l = length;
                s.due("character " + l, l, () -> h.feed(text.charAt(l - 1)));
            }
            s.due("character 61", BAD_STATE, () -> h.feed('0'));
            s.due("the text of 60 characters", 6, h::execute);
            s.due("an empty buffer again", 1, () -> h.feed('w'));
        });
    }

    private static void grammar(Sentences s) {
        s.test("A text matches this grammar, with terminals in double quotes and brackets for an optional part; a "
                + "space in a terminal is exactly one space:", () -> {
            fault(s, "cast  1", 5);
            fault(s, "cast1", 4);
            fault(s, " cast 1", 0);
            fault(s, "cast 1 ", 6);
            fault(s, "cast 1; cast 2", 7);
            fault(s, "cast 1 ;cast 2", 6);
            fault(s, "cast\t1", 4);
            fault(s, "moor 1 2  3 4", 9);
            fault(s, "moor 1  2 3 4", 7);
            fault(s, "wind 1 =2", 6);
            fault(s, "wind 1= 2", 7);
            fault(s, "wind 1=- 2", 8);
            fault(s, "pilot 1 2 -3", 9);
            fault(s, "pilot 1 2- 3", 10);
            fault(s, "Cast 1", 0);
            fault(s, "cAst 1", 1);
            matches(s, "the optional part is there", "wind 1=-2", 1);
            matches(s, "the optional part is not there", "wind 1=2", 1);
        });
        s.test("text: command { \";\" command }", () -> {
            fault(s, "", 0);
            fault(s, ";", 0);
            fault(s, ";wait 1", 0);
            fault(s, "wait 1;", 7);
            fault(s, "wait 1;;wait 1", 7);
            fault(s, "wait 1,wait 1", 6);
            matches(s, "one command", "wait 1", 1);
            matches(s, "two commands", "wait 1;wait 1", 2);
            matches(s, "as many as 60 characters hold", "wait 1;wait 1;wait 1;wait 1;wait 1;wait 1;wait 1;wait 1", 8);
            fault(s, "wait 1;wait 1;wait 1;wait 1;wait 1;wait 1;wait 1;wait 1;", 56);
            fault(s, "wait 1;wait 1;wait 1;wait 1;wait 1;wait 1;wait 1;wait 1;wait", 60);
            fault(s, "wait 1;wait 1;wait 1;wait 1;wait 1;wait 1;wait 1;wait 1;w1", 57);
        });
    }

    private static void commands(Sentences s) {
        s.test("command: \"moor \" digit \" \" number \" \" number \" \" number | \"cast \" digit | \"load \" digit \" "
                + "\" number | \"drop \" digit \" \" digit | \"rise \" digit \" \" number | \"wind \" number \"=\" [ "
                + "\"-\" ] digit | \"wait \" number | \"pilot \" number \" \" number \"-\" number | \"leave \" digit",
                () -> {
            String[] texts = {"moor 0 11 22 33", "cast 0", "load 0 11", "drop 0 1", "rise 0 11", "wind 11=-2",
                "wait 11", "pilot 11 22-23", "leave 0"};
            for (String text : texts) {
                for (int length = 0; length < text.indexOf(' ') + 2; length++) {
                    fault(s, text.substring(0, length), length);
                    fault(s, text.substring(0, length) + "?", length);
                }
                fault(s, text + "0", text.length());
                fault(s, text + " 0", text.length());
            }
            fault(s, "moor 10 1 1 1", 6);
            fault(s, "moor 1 1 1", 10);
            fault(s, "cast 10", 6);
            fault(s, "load 1", 6);
            fault(s, "load 10 1", 6);
            fault(s, "drop 1", 6);
            fault(s, "drop 1 10", 8);
            fault(s, "rise 10 1", 6);
            fault(s, "rise 1 ", 7);
            fault(s, "wind 1", 6);
            fault(s, "wind 1=", 7);
            fault(s, "wind 1=-", 8);
            fault(s, "wind 1=--1", 8);
            fault(s, "wind 1=+1", 7);
            fault(s, "wind -1=1", 5);
            fault(s, "wind 1=10", 8);
            fault(s, "wind 1=-10", 9);
            fault(s, "wait -1", 5);
            fault(s, "pilot 1 2", 9);
            fault(s, "pilot 1 2-", 10);
            fault(s, "pilot 1 2 3", 9);
            fault(s, "pilot -1 2-3", 6);
            fault(s, "leave 10", 7);
        });
    }

    private static void numbers(Sentences s) {
        s.test("number: one or two digits", () -> {
            matches(s, "one digit", "wait 1", 1);
            matches(s, "two digits", "wait 12", 1);
            matches(s, "a zero before", "wait 01", 1);
            BalloonHarbour h = Checks.after("wait 09;wait 10;wait 5");
            s.due("what they stand for", 24, h::hour);
            fault(s, "wait ", 5);
            fault(s, "wait 100", 7);
            fault(s, "wait 001", 7);
            fault(s, "moor 1 100 1 1", 9);
            fault(s, "moor 1 1 100 1", 11);
            fault(s, "moor 1 1 1 100", 13);
            fault(s, "load 1 100", 9);
            fault(s, "rise 1 100", 9);
            fault(s, "wind 100=1", 7);
            fault(s, "pilot 100 1-1", 8);
            fault(s, "pilot 1 100-1", 10);
            fault(s, "pilot 1 1-100", 12);
            for (int digit = 0; digit <= 9; digit++) {
                int d = digit;
                BalloonHarbour g = Checks.after("moor " + d + " 1 1 1;pilot 1 " + d + "-" + d);
                s.due("digit " + d, true, () -> g.isMoored(d));
                s.due("number " + d, true, () -> g.isOnDuty(0, d));
            }
            fault(s, "wait /", 5);
            fault(s, "wait :", 5);
            fault(s, "wait 1/", 6);
            fault(s, "wait 1:", 6);
            // A digit of another script, and a sign whose lower byte is that of 0.
            fault(s, "wait \u0661", 5);
            fault(s, "wait \u0130", 5);
        });
    }

    private static void methods(Sentences s) {
        s.test("The commands correspond to the methods moor, castOff, load, drop, rise, setWind, pass, addPilot and "
                + "removePilot, with the parameters in the same order.", () -> {
            same(s, "moor 8 12 7 15", h -> h.moor(8, 12, 7, 15));
            same(s, "cast 2", h -> h.castOff(2));
            same(s, "load 2 13", h -> h.load(2, 13));
            same(s, "drop 0 4", h -> h.drop(0, 4));
            same(s, "rise 2 12", h -> h.rise(2, 12));
            same(s, "wind 8=5", h -> h.setWind(8, 5));
            same(s, "wind 23=-9", h -> h.setWind(23, -9));
            same(s, "wait 30", h -> h.pass(30));
            same(s, "leave 3", h -> h.removePilot(3));
            same(s, "leave 0;pilot 12 20-4", h -> {
                h.removePilot(0);
                return h.addPilot(12, 20, 4);
            });
            same(s, "wind 23=-0", h -> h.setWind(23, 0));
        });
    }

    /** A text does on a busy harbour what calls do, and is one change. */
    private static void same(Sentences s, String text, Sentences.Act calls) {
        int commands = (int) text.chars().filter(c -> c == ';').count() + 1;
        BalloonHarbour called = Busy.harbour();
        calls.on(called);
        BalloonHarbour h = withoutText();
        s.due(text, commands, () -> Checks.run(h, text));
        s.due(text + ": what is then", State.of(called), () -> State.of(h));
        BalloonHarbour undone = withoutText();
        Checks.run(undone, text);
        undone.undo();
        s.due(text + ": what was before", State.of(Busy.harbour()), () -> State.of(undone));
    }

    /** A busy harbour with an empty text buffer. */
    private static BalloonHarbour withoutText() {
        BalloonHarbour h = Busy.harbour();
        Busy.refuse(h::execute);
        return h;
    }

    private static void faults(Sentences s) {
        s.test("The fault position of a text is the index of the first character that cannot continue any such text, "
                + "or the length of the text if it ends too early.", () -> {
            fault(s, "", 0);
            fault(s, "l", 1);
            fault(s, "la", 1);
            fault(s, "lo", 2);
            fault(s, "le", 2);
            fault(s, "loave 1", 3);
            fault(s, "leoad 1 1", 2);
            fault(s, "w", 1);
            fault(s, "wa", 2);
            fault(s, "wi", 2);
            fault(s, "wo", 1);
            fault(s, "wand 1=1", 2);
            fault(s, "wiit 1", 2);
            fault(s, "x", 0);
            fault(s, "wait 1;x", 7);
            fault(s, "wait 1;wait 1;wa", 16);
            fault(s, "wait 1;wait 1x;wait 1", 13);
            fault(s, "wait x;wait y", 5);
            fault(s, "wait 1\uffff", 6);
            fault(s, "\0", 0);
            // That no text of 60 characters could go on like this does not matter to the grammar.
            fault(s, "wait 1;wait 1;wait 1;wait 1;wait 1;wait 1;wait 1;wait 1;moor", 60);
        });
    }

    /** The text does not match, and its fault position is kept. */
    private static void fault(Sentences s, String text, int position) {
        BalloonHarbour h = new BalloonHarbour();
        s.due("\"" + text + "\"", BAD_ARGUMENT, () -> Checks.run(h, text));
        s.due("fault position of \"" + text + "\"", position, h::faultPosition);
    }

    private static void matches(Sentences s, String what, String text, int commands) {
        s.due(what, commands, () -> Checks.run(new BalloonHarbour(), text));
    }

    private static void feed(Sentences s) {
        s.section("Promise 43");
        s.test("Appends a character to the text buffer.", () -> {
            BalloonHarbour h = new BalloonHarbour();
            for (char character : "wait 12".toCharArray()) {
                h.feed(character);
            }
            h.execute();
            s.due("in their order", 12, h::hour);
        });
        s.test("- `character`: any character", () -> {
            char[] characters = {'\0', '\n', ' ', ';', '\u007f', '\u00ff', '\u0100', '\ud800', '\uffff'};
            BalloonHarbour h = new BalloonHarbour();
            for (int index = 0; index < characters.length; index++) {
                char character = characters[index];
                s.due("character " + (int) character, index + 1, () -> h.feed(character));
            }
        });
        s.test("Returns the length of the buffer afterwards.", () -> {
            BalloonHarbour h = new BalloonHarbour();
            for (int length = 1; length <= 60; length++) {
                s.due("length", length, () -> h.feed('w'));
            }
            Busy.refuse(h::execute);
            s.due("after execute", 1, () -> h.feed('w'));
        });
        s.test("Throws `IllegalStateException` if the buffer has 60 characters", () -> {
            BalloonHarbour h = new BalloonHarbour();
            for (int length = 1; length < 60; length++) {
                h.feed(' ');
            }
            s.due("59 characters", 60, () -> h.feed(' '));
            s.due("60 characters", BAD_STATE, () -> h.feed(' '));
            s.due("60 characters still", BAD_STATE, () -> h.feed('x'));
            s.due("no text", BAD_ARGUMENT, h::execute);
            s.due("an empty buffer", 1, () -> h.feed(' '));
        });
    }

    private static void execute(Sentences s) {
        s.section("Promise 44");
        s.test("Parses the text buffer and executes its commands in their order, either all of them or none.", () -> {
            BalloonHarbour h = new BalloonHarbour();
            Checks.run(h, "moor 1 20 20 20;load 1 3;load 1 5;drop 1 0;load 1 7");
            s.due("the second bag is the first one now", 5, () -> h.bagWeight(1, 0));
            s.due("the last bag", 7, () -> h.bagWeight(1, 1));
            String before = State.of(h);
            s.due("the last of four fails", DENIED, () -> Checks.run(h, "wait 1;drop 1 0;pilot 1 2-3;drop 1 1"));
            s.due("none of them", before, () -> State.of(h));
            s.due("the first of two fails", DENIED, () -> Checks.run(h, "drop 1 2;wait 1"));
            s.due("nor the second", before, () -> State.of(h));
            s.due("the second needs the first", 2, () -> Checks.run(h, "moor 2 9 9 9;load 2 4"));
            s.due("bags of the text", 4, () -> h.ballast(2));
            s.due("the second fails by the first", DENIED, () -> Checks.run(h, "cast 2;load 2 4"));
            s.due("the balloon is still there", 4, () -> h.ballast(2));
            s.due("what fails alone can fail no more", 2, () -> Checks.run(h, "cast 2;moor 2 8 8 8"));
        });
        s.test("The buffer is empty afterwards, even if an exception is thrown.", () -> {
            BalloonHarbour h = new BalloonHarbour();
            s.due("a text that works", 1, () -> Checks.run(h, "wait 1"));
            s.due("empty then", 1, () -> h.feed('x'));
            s.due("a text that does not match", BAD_ARGUMENT, h::execute);
            s.due("empty then", 1, () -> h.feed('c'));
            s.due("a text that is denied", DENIED, () -> Checks.run(h, "ast 1"));
            s.due("empty then", BAD_ARGUMENT, h::execute);
            s.due("fault position of the empty text", 0, h::faultPosition);
        });
        s.test("Returns the number of commands.", () -> {
            StringBuilder text = new StringBuilder("wait 1");
            for (int count = 1; count <= 8; count++) {
                matches(s, "commands", text.toString(), count);
                text.append(";wait 1");
            }
        });
    }

    private static void executeRefused(Sentences s) {
        s.test("Throws `IllegalArgumentException` if the buffer does not match the grammar; the fault position is kept",
                () -> {
            fault(s, "", 0);
            fault(s, "wait", 4);
            fault(s, "wait 1;", 7);
            s.textRefused("a text that ends too early", BAD_ARGUMENT, BalloonHarbour::execute);
            s.textRefused("a text with a wrong character", BAD_ARGUMENT, h -> Checks.run(h, "t 1;cast 0;cast x"));
            BalloonHarbour h = Busy.harbour();
            Busy.refuse(h::execute);
            s.due("the fault position", 3, h::faultPosition);
            s.due("the denial is not changed", 6, h::denial);
            s.due("nor its detail", 1, h::denialDetail);
            s.due("nor its cause", 7, h::denialCause);
            s.due("the line is not changed", Busy.LINE, () -> Whole.lineOf(h));
        });
        s.test("Throws `UnsupportedOperationException` if denied: 6", () -> {
            s.textRefused("the first command fails", DENIED, h -> {
                Busy.refuse(h::execute);
                return Checks.run(h, "cast 1;wait 1");
            });
            s.textRefused("the last command fails", DENIED, h -> Checks.run(h, "t 9;cast 0;wind 3=3;leave 0;leave 5"));
            BalloonHarbour h = Busy.harbour();
            Busy.fail(h, "t 1;wait 1;load 2 1;load 0 1;wait 1");
            s.due("denial", 6, h::denial);
            s.due("index of the command", 3, h::denialDetail);
            s.due("cause", 1, h::denialCause);
            s.due("the fault position is not changed", 5, h::faultPosition);
            s.due("the line is not changed", Busy.LINE, () -> Whole.lineOf(h));
        });
    }

    private static void faultPosition(Sentences s) {
        s.section("Promise 45");
        s.test("Returns the fault position that was kept last.", () -> {
            BalloonHarbour h = new BalloonHarbour();
            Busy.fail(h, "wait x");
            s.due("the first one", 5, h::faultPosition);
            Busy.fail(h, "wait 1;wait");
            s.due("the last one", 11, h::faultPosition);
            Checks.run(h, "wait 1");
            s.due("kept by a text that works", 11, h::faultPosition);
            Busy.fail(h, "cast 1");
            s.due("kept by a text that is denied", 11, h::faultPosition);
            Busy.fail(h, "");
            s.due("the last one", 0, h::faultPosition);
        });
        s.test("Returns the fault position.", () -> {
            s.due("of a text of 60 characters", 60, () -> {
                BalloonHarbour h = new BalloonHarbour();
                Busy.fail(h, "wait 1;wait 1;wait 1;wait 1;wait 1;wait 1;wait 1;wait 1;load");
                return h.faultPosition();
            });
            s.onlyTells(5, BalloonHarbour::faultPosition);
        });
        s.test("Throws `NoSuchElementException` if none was kept yet", () -> {
            BalloonHarbour h = new BalloonHarbour();
            s.due("a new harbour", NO_ELEMENT, h::faultPosition);
            Checks.run(h, "wait 1");
            s.due("after a text that works", NO_ELEMENT, h::faultPosition);
            Busy.fail(h, "cast 1");
            s.due("after a text that is denied", NO_ELEMENT, h::faultPosition);
            h.feed('x');
            s.due("before execute", NO_ELEMENT, h::faultPosition);
        });
    }

    private static void writeBalloon(Sentences s) {
        s.section("Promise 46");
        s.test("Writes a balloon as the output line, which replaces the previous one: the berth, \":\" and its height, "
                + "\"/\" and the length of its string, \"!\" if it is bursting, and for each bag in the order of the "
                + "indices, \"+\" and its weight.", () -> {
            line(s, "no bags, least numbers", "0:1/1", "moor 0 1 1 1");
            line(s, "height at the strength", "9:40/40", "moor 9 99 40 40");
            line(s, "height 1 above the strength", "9:40/40!", "moor 9 99 40 39");
            line(s, "height 0", "4:0/7+20", "moor 4 20 7 1;load 4 20");
            line(s, "bursting with bags", "4:2/7!+1+20", "moor 4 23 7 1;load 4 1;load 4 20");
            line(s, "six bags", "4:7/7!+1+20+3+9+10+11", "moor 4 99 7 1;load 4 1;load 4 20;load 4 3;load 4 9;load 4 10",
                    "load 4 11");
            line(s, "a bag was dropped", "4:7/7!+1+3", "moor 4 99 7 1;load 4 1;load 4 20;load 4 3;drop 4 1");
            BalloonHarbour h = Checks.after("moor 4 99 7 1;load 4 1;load 4 20;moor 0 1 1 1");
            h.writeBalloon(4);
            h.writeBalloon(0);
            s.due("a shorter line replaces a longer one", "0:1/1", () -> Whole.lineOf(h));
            h.castOff(0);
            s.due("the line stays as it was written", "0:1/1", () -> Whole.lineOf(h));
            h.writeBalloon(4);
            s.due("a longer line replaces a shorter one", "4:7/7!+1+20", () -> Whole.lineOf(h));
        });
        s.test("Example: \"3:12/20+7+15\".", () ->
                line(s, "the example", "3:12/20+7+15", "moor 3 34 20 60;load 3 7;load 3 15"));
        s.test("- `berth`: the berth", () -> {
            BalloonHarbour h = new BalloonHarbour();
            for (int berth = 0; berth < 10; berth++) {
                int b = berth;
                h.moor(b, 1, 1, 1);
                h.writeBalloon(b);
                s.due("berth " + b, b + ":1/1", () -> Whole.lineOf(h));
            }
        });
        s.test("Returns the length of the line.", () -> {
            BalloonHarbour h = Checks.after("moor 0 1 1 1;moor 9 99 40 1;load 9 1;load 9 20");
            s.due("the shortest one", 5, () -> h.writeBalloon(0));
            s.due("a long one", 13, () -> h.writeBalloon(9));
        });
        s.test("Throws `NoSuchElementException` if no balloon is moored there",
                () -> s.needsBalloon(BalloonHarbour::writeBalloon));
    }

    private static void line(Sentences s, String what, String want, String... texts) {
        BalloonHarbour h = Checks.after(texts);
        s.due(what + ": length", want.length(), () -> h.writeBalloon(want.charAt(0) - '0'));
        s.due(what, want, () -> Whole.lineOf(h));
    }

    private static void lineCharacter(Sentences s) {
        s.section("Promise 47");
        s.test("Returns a character of the output line, which is initially empty.", () -> {
            BalloonHarbour h = new BalloonHarbour();
            s.due("initially empty", BAD_INDEX, () -> h.lineCharacter(0));
            Checks.run(h, "moor 3 34 20 60");
            s.due("empty until a balloon is written", BAD_INDEX, () -> h.lineCharacter(0));
            h.writeBalloon(3);
            s.due("then not any more", '3', () -> h.lineCharacter(0));
        });
        s.test("- `index`: the index, from 0", () -> {
            for (int index = 0; index < Busy.LINE.length(); index++) {
                int i = index;
                s.due("index " + i, Busy.LINE.charAt(i), () -> Busy.harbour().lineCharacter(i));
            }
        });
        s.test("Returns the character.", () -> {
            s.due("the last one", '5', () -> Busy.harbour().lineCharacter(10));
            s.onlyTells('2', h -> h.lineCharacter(0));
        });
        s.test("Throws `IndexOutOfBoundsException` if there is no such index", () -> {
            s.needsIndex("index", Busy.LINE.length(), BalloonHarbour::lineCharacter);
            BalloonHarbour h = Checks.after("moor 0 1 1 1");
            for (int index : new int[] {-1, 0, 1}) {
                s.due("empty line, index " + index, BAD_INDEX, () -> h.lineCharacter(index));
            }
            BalloonHarbour g = Busy.harbour();
            g.writeBalloon(Busy.HIGH);
            s.due("the last index of a shorter line", '!', () -> g.lineCharacter(5));
            s.due("behind a shorter line", BAD_INDEX, () -> g.lineCharacter(6));
        });
    }
}
