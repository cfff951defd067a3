/** Compares answers with those that are due; an exception's class stands for a call that throws it. */
final class Checks {
    interface Call {
        Object answer();
    }

    private int checked = 0;
    private int wrong = 0;

    void due(String what, Object want, Call call) {
        Object got;
        try {
            got = call.answer();
        } catch (RuntimeException e) {
            got = thrown(e);
        }
        checked++;
        if (!want.equals(got)) {
            wrong++;
            System.out.println(what + " answered " + got + ", due is " + want);
        }
    }

    /** The class of an exception that the program has thrown; of one that the machine has thrown, all it tells. */
    static Object thrown(Throwable e) {
        StackTraceElement[] places = e.getStackTrace();
        boolean inProgram = places.length > 0 && places[0].getClassName().startsWith("BalloonHarbour");
        boolean ofDivision = e instanceof ArithmeticException && "/ by zero".equals(e.getMessage());
        return inProgram && !ofDivision ? e.getClass() : "by the machine: " + e;
    }

    void finish() {
        System.out.println(checked + " answers checked, " + wrong + " wrong");
        if (wrong > 0) {
            System.exit(1);
        }
    }

    /** Feeds a text and executes it. */
    static int run(BalloonHarbour harbour, String text) {
        for (int i = 0; i < text.length(); i++) {
            harbour.feed(text.charAt(i));
        }
        return harbour.execute();
    }

    static BalloonHarbour after(String... texts) {
        BalloonHarbour harbour = new BalloonHarbour();
        for (String text : texts) {
            run(harbour, text);
        }
        return harbour;
    }
}
