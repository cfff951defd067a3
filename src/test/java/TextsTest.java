import java.util.NoSuchElementException;

/** Promises 43 to 47: texts and output lines. */
public final class TextsTest {
    private static final Checks CHECKS = new Checks();

    public static void main(String[] args) {
        feeding();
        executing();
        failing();
        faultPositions();
        faultsOfChangedTexts();
        outputLine();
        CHECKS.finish();
    }

    private static void feeding() {
        BalloonHarbour h = new BalloonHarbour();
        CHECKS.due("43 any character", 1, () -> h.feed('\0'));
        CHECKS.due("43 any character", 2, () -> h.feed('\uffff'));
        for (int length = 3; length <= 60; length++) {
            CHECKS.due("43", length, () -> h.feed(' '));
        }
        CHECKS.due("43 full", IllegalStateException.class, () -> h.feed('x'));
        CHECKS.due("44 no match", IllegalArgumentException.class, h::execute);
        CHECKS.due("45", 0, h::faultPosition);
        CHECKS.due("43 empty after the exception", 1, () -> h.feed('w'));
        for (char c : "ait 1".toCharArray()) {
            h.feed(c);
        }
        CHECKS.due("44", 1, h::execute);
        CHECKS.due("43 empty afterwards", 1, () -> h.feed('c'));
        for (char c : "ast 1".toCharArray()) {
            h.feed(c);
        }
        CHECKS.due("44 denied", UnsupportedOperationException.class, h::execute);
        CHECKS.due("43 empty after the denial", 1, () -> h.feed('c'));
    }

    private static void executing() {
        BalloonHarbour h = new BalloonHarbour();
        CHECKS.due("45 none kept", NoSuchElementException.class, h::faultPosition);
        CHECKS.due("44 moor", 1, () -> Checks.run(h, "moor 3 40 20 15"));
        CHECKS.due("44 lift", 40, () -> h.lift(3));
        CHECKS.due("44 strain", 20f / 15f, () -> h.strain(3));
        CHECKS.due("44 load twice", 2, () -> Checks.run(h, "load 3 9;load 3 12"));
        CHECKS.due("44 order", 12, () -> h.bagWeight(3, 1));
        CHECKS.due("44 rise", 1, () -> Checks.run(h, "rise 3 20"));
        CHECKS.due("44 rose", 9, h::dropped);
        CHECKS.due("44 drop", 1, () -> Checks.run(h, "drop 3 0"));
        CHECKS.due("44 dropped", 21, h::dropped);
        CHECKS.due("44 winds", 4, () -> Checks.run(h, "wind 5=7;wind 05=-3;wind 23=9;wind 0=-9"));
        CHECKS.due("44 wind 5", -3, () -> h.wind(5));
        CHECKS.due("44 wind 23", 9, () -> h.wind(23));
        CHECKS.due("44 wind 0", -9, () -> h.wind(0));
        CHECKS.due("44 minus zero", 1, () -> Checks.run(h, "wind 0=-0"));
        CHECKS.due("44 wind 0", 0, () -> h.wind(0));
        CHECKS.due("44 pilots", 2, () -> Checks.run(h, "pilot 5 22-6;pilot 30 8-09"));
        CHECKS.due("44 duty", true, () -> h.isOnDuty(0, 23));
        CHECKS.due("44 duty", false, () -> h.isOnDuty(1, 10));
        CHECKS.due("44 duty", true, () -> h.isOnDuty(1, 9));
        CHECKS.due("44 leave", 1, () -> Checks.run(h, "leave 0"));
        CHECKS.due("44 left", 1, h::pilotCount);
        CHECKS.due("44 cast", 1, () -> Checks.run(h, "cast 3"));
        CHECKS.due("44 gone", 0, h::balloonCount);
        CHECKS.due("44 wait", 2, () -> Checks.run(h, "wait 1;wait 48"));
        CHECKS.due("44 waited", 49, h::hour);
        CHECKS.due("44 eight commands", 8,
                () -> Checks.run(h, "wait 1;wait 1;wait 1;wait 1;wait 1;wait 1;wait 1;wait 10"));
        CHECKS.due("44 many characters", 5,
                () -> Checks.run(h, "moor 3 40 20 15;cast 3;moor 3 40 20 15;cast 3;wait 1"));
        CHECKS.due("45 none kept yet", NoSuchElementException.class, h::faultPosition);
    }

    private static void failing() {
        BalloonHarbour h = Checks.after("moor 1 20 20 20");
        CHECKS.due("44 third fails", UnsupportedOperationException.class,
                () -> Checks.run(h, "wait 5;load 1 9;load 2 9;cast 1"));
        CHECKS.due("44 denial 6", 6, h::denial);
        CHECKS.due("44 index", 2, h::denialDetail);
        CHECKS.due("44 exception as cause", 7, h::denialCause);
        CHECKS.due("44 none of them", 0, h::hour);
        CHECKS.due("44 none of them", 0, h::loaded);
        CHECKS.due("44 no change", 1, h::undoCount);
        CHECKS.due("45 no fault", NoSuchElementException.class, h::faultPosition);
        String[] texts = {"moor 1 1 1 1", "rise 1 5", "rise 1 21", "wind 3=0", "load 1 0", "moor 2 0 1 1",
            "wait 0", "wait 49", "wind 24=1", "pilot 31 0-0", "pilot 1 0-24", "drop 1 0", "leave 0", "cast 2",
            "rise 1 41", "rise 1 0", "rise 2 5"};
        int[] causes = {2, 4, 3, 5, 7, 7, 7, 7, 7, 7, 7, 7, 7, 7, 7, 7, 7};
        for (int i = 0; i < texts.length; i++) {
            String text = texts[i];
            CHECKS.due("44 " + text, UnsupportedOperationException.class, () -> Checks.run(h, text));
            CHECKS.due("50 " + text, causes[i], h::denialCause);
            CHECKS.due("49 " + text, 0, h::denialDetail);
        }
        CHECKS.due("44 fourth fails", UnsupportedOperationException.class,
                () -> Checks.run(h, "moor 0 9 9 9;cast 0;moor 0 9 9 9;moor 0 9 9 9"));
        CHECKS.due("50 taken", 2, h::denialCause);
        CHECKS.due("49 index", 3, h::denialDetail);
        Checks.run(h, "load 1 1;load 1 1;load 1 1;load 1 1;load 1 1;load 1 1");
        CHECKS.due("44 seventh bag", UnsupportedOperationException.class, () -> Checks.run(h, "load 1 1"));
        CHECKS.due("50 limit", 1, h::denialCause);
        // Only the commands before it in the same text let the third one reach the limit.
        CHECKS.due("44 second load", UnsupportedOperationException.class,
                () -> Checks.run(h, "drop 1 5;load 1 1;load 1 2"));
        CHECKS.due("49 second load", 2, h::denialDetail);
        CHECKS.due("44 all bags are there", 6, () -> h.bagCount(1));
    }

    private static void faultPositions() {
        fault("", 0);
        fault("l", 1);
        fault("x", 0);
        fault("lo", 2);
        fault("la", 1);
        fault("lx", 1);
        fault("wa", 2);
        fault("wi", 2);
        fault("wx", 1);
        fault("moor", 4);
        fault("moor ", 5);
        fault("moor  1", 5);
        fault("moor x", 5);
        fault("moor 10 1 1 1", 6);
        fault("moor 1 1 1", 10);
        fault("moor 1 1 1 1;", 13);
        fault("moor 1 1 1 1 ", 12);
        fault("moor 1 100 1 1", 9);
        fault("cast", 4);
        fault("cast 12", 6);
        fault("cast 1;;", 7);
        fault("cast 1;cast 2;", 14);
        fault("Cast 1", 0);
        fault("wind 5", 6);
        fault("wind 5=", 7);
        fault("wind 5=-", 8);
        fault("wind 5=--1", 8);
        fault("wind 5=10", 8);
        fault("wind 5 =1", 6);
        fault("wind 123=1", 7);
        fault("wait 123", 7);
        fault("pilot 5 1", 9);
        fault("pilot 5 1-", 10);
        fault("pilot 5 1 2", 9);
        fault("pilot 5 1--2", 10);
        fault("leave", 5);
        fault("leave 10", 7);
        fault(" cast 1", 0);
        fault("drop 1 10", 8);
        fault("rise 1 ", 7);
        fault("cast 1;cast 1;cast 1;cast 1;cast 1;cast 1;cast 1;cast 1;", 56);
        fault("cast 1;cast 1;cast 1;cast 1;cast 1;cast 1;cast 1;cast 1;cast", 60);
        fault("cast 1;cast 1;cast 1;cast 1;cast 1;cast 1;cast 1;cast 1;cx", 57);
        fault("wait \u0661", 5);
        keptFaults();
    }

    private static void keptFaults() {
        BalloonHarbour h = new BalloonHarbour();
        CHECKS.due("44 fault", IllegalArgumentException.class, () -> Checks.run(h, "cast x"));
        Checks.run(h, "wait 1");
        CHECKS.due("45 kept", 5, h::faultPosition);
        CHECKS.due("44 denied", UnsupportedOperationException.class, () -> Checks.run(h, "cast 1"));
        CHECKS.due("45 kept", 5, h::faultPosition);
        CHECKS.due("44 grammar is no denial", 6, h::denial);
        // The grammar fails as a whole before a command could.
        CHECKS.due("44 fault before failure", IllegalArgumentException.class, () -> Checks.run(h, "wait 2;cast 1;"));
        CHECKS.due("44 nothing done", 1, h::hour);
        CHECKS.due("45 replaced", 14, h::faultPosition);
    }

    private static void fault(String text, int want) {
        BalloonHarbour h = new BalloonHarbour();
        CHECKS.due("44 " + text, IllegalArgumentException.class, () -> Checks.run(h, text));
        CHECKS.due("45 " + text, want, h::faultPosition);
    }

    private static void faultsOfChangedTexts() {
        String[] good = {"moor 3 40 20 15;load 3 9;rise 3 20",
            "pilot 5 22-6;leave 0;wind 12=-3", "drop 1 2;cast 3;wait 11;wait 2"};
        String signs = "0159 ;=-aceilmorstvwxpdn";
        int seed = 1;
        for (int round = 0; round < 6000; round++) {
            BalloonHarbour h = new BalloonHarbour();
            StringBuilder text = new StringBuilder(good[round % good.length]);
            for (int change = 0; change <= round % 2; change++) {
                seed = seed * 1103515245 + 12345;
                int place = (seed >>> 8) % text.length();
                char sign = signs.charAt((seed >>> 20) % signs.length());
                if (round % 5 == 0) {
                    text.deleteCharAt(place);
                } else if (round % 5 == 1) {
                    text.insert(place, sign);
                } else if (round % 5 == 2) {
                    text.setLength(place + 1);
                } else {
                    text.setCharAt(place, sign);
                }
            }
            String changed = text.toString();
            boolean matches = Grammar.matches(changed);
            boolean refused = false;
            try {
                Checks.run(h, changed);
            } catch (IllegalArgumentException e) {
                refused = true;
            } catch (UnsupportedOperationException e) {
                refused = false;
            }
            boolean wasRefused = refused;
            CHECKS.due("44 " + changed, !matches, () -> wasRefused);
            if (refused) {
                CHECKS.due("45 " + changed, Grammar.faultOf(changed), h::faultPosition);
            }
        }
    }

    private static void outputLine() {
        BalloonHarbour h = new BalloonHarbour();
        CHECKS.due("47 initially empty", IndexOutOfBoundsException.class, () -> h.lineCharacter(0));
        CHECKS.due("46 none", NoSuchElementException.class, () -> h.writeBalloon(0));
        Checks.run(h, "moor 3 34 20 60;load 3 7;load 3 15;moor 9 99 40 39");
        Checks.run(h, "moor 0 1 1 1");
        line(h, 3, "3:12/20+7+15");
        CHECKS.due("46 none", NoSuchElementException.class, () -> h.writeBalloon(10));
        CHECKS.due("46 none", NoSuchElementException.class, () -> h.writeBalloon(-1));
        CHECKS.due("47 the line is kept", '3', () -> h.lineCharacter(0));
        line(h, 9, "9:40/40!");
        line(h, 0, "0:1/1");
        Checks.run(h, "load 9 20;load 9 1;load 9 3");
        line(h, 9, "9:40/40!+20+1+3");
        h.castOff(9);
        CHECKS.due("47 the line is not the balloon", '9', () -> h.lineCharacter(0));
        BalloonHarbour g = Checks.after("moor 1 99 40 1;load 1 10;load 1 11;load 1 12;load 1 13",
                "load 1 14;load 1 15");
        line(g, 1, "1:24/40!+10+11+12+13+14+15");
        CHECKS.due("46 is no change", 2, g::undoCount);
    }

    private static void line(BalloonHarbour h, int berth, String want) {
        CHECKS.due("46 " + want, want.length(), () -> h.writeBalloon(berth));
        for (int index = 0; index < want.length(); index++) {
            int i = index;
            CHECKS.due("47 " + want + " at " + i, want.charAt(i), () -> h.lineCharacter(i));
        }
        CHECKS.due("47 behind " + want, IndexOutOfBoundsException.class, () -> h.lineCharacter(want.length()));
        CHECKS.due("47 before " + want, IndexOutOfBoundsException.class, () -> h.lineCharacter(-1));
    }
}
