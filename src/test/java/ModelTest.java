import java.lang.reflect.InvocationTargetException;
import java.lang.reflect.Method;
import java.lang.reflect.Modifier;
import java.util.ArrayList;
import java.util.Arrays;
import java.util.Comparator;
import java.util.List;

/** Long runs of calls, each answered as the model answers them. */
public final class ModelTest {
    private static final int RUNS = 1500;
    private static final int CALLS = 512;
    private static final String[] CHANGES = {"moor", "castOff", "load", "drop", "rise", "setWind", "pass", "addPilot",
        "removePilot", "load", "load", "load", "moor", "moor", "setWind", "addPilot"};

    private long seed;
    private final List<Method> methods = new ArrayList<>();

    public static void main(String[] args) throws Exception {
        int wrong = 0;
        for (int run = 1; run <= RUNS && wrong < 3; run++) {
            wrong += new ModelTest(run).run(run);
        }
        System.out.println(RUNS + " runs of " + CALLS + " calls, " + wrong + " wrong");
        if (wrong > 0) {
            System.exit(1);
        }
    }

    private ModelTest(int run) {
        seed = run * 7919L;
        for (Method method : BalloonHarbour.class.getDeclaredMethods()) {
            if (Modifier.isPublic(method.getModifiers())) {
                methods.add(method);
            }
        }
        methods.sort(Comparator.comparing(Method::getName));
    }

    private int below(int bound) {
        seed = seed * 6364136223846793005L + 1442695040888963407L;
        return (int) ((seed >>> 33) % bound);
    }

    private int run(int run) throws Exception {
        BalloonHarbour harbour = new BalloonHarbour();
        Model model = new Model();
        StringBuilder told = new StringBuilder();
        String text = "";
        for (int call = 0; call < CALLS; call++) {
            Method method = methods.get(below(methods.size()));
            int kind = below(10);
            if (!text.isEmpty()) {
                method = named("feed");
            } else if (kind < 5) {
                method = named(CHANGES[below(CHANGES.length)]);
            } else if (kind == 5 && run % 3 == 0) {
                text = text();
                method = named("feed");
            }
            int[] values = values(method);
            if (method.getName().equals("feed") && !text.isEmpty()) {
                values[0] = text.charAt(0);
                text = text.substring(1);
            }
            if (method.getName().equals("feed") && values[0] == '\n') {
                method = named("execute");
                values = new int[0];
            }
            Object want = modelAnswer(model, method.getName(), values);
            Object got = answer(harbour, method, values);
            told.append("\n  ").append(method.getName()).append(Arrays.toString(values)).append(" = ").append(got);
            if (!want.equals(got)) {
                System.out.println("run " + run + told + ", due is " + want);
                return 1;
            }
        }
        return 0;
    }

    private Method named(String name) {
        return methods.stream().filter(m -> m.getName().equals(name)).findFirst().orElseThrow();
    }

    private static Object modelAnswer(Model model, String name, int[] values) {
        try {
            return model.call(name, values);
        } catch (RuntimeException e) {
            return e.getClass();
        }
    }

    private static Object answer(BalloonHarbour harbour, Method method, int[] values) throws Exception {
        Object[] boxed = new Object[values.length];
        for (int i = 0; i < values.length; i++) {
            boxed[i] = method.getName().equals("feed") ? (Object) (char) values[i] : (Object) values[i];
        }
        try {
            return method.invoke(harbour, boxed);
        } catch (InvocationTargetException e) {
            return Checks.thrown(e.getCause());
        }
    }

    /** Mostly values that are in range, for the parameters of a method. */
    private int[] values(Method method) {
        int[] values = new int[method.getParameterCount()];
        int[] bounds = bounds(method.getName());
        for (int i = 0; i < values.length; i++) {
            int least = bounds[2 * i];
            int most = bounds[2 * i + 1];
            int kind = below(40);
            if (kind == 0) {
                values[i] = least - 1;
            } else if (kind == 1) {
                values[i] = most + 1;
            } else if (kind == 2) {
                values[i] = below(2) == 0 ? Integer.MIN_VALUE : Integer.MAX_VALUE;
            } else if (kind == 3) {
                values[i] = below(2) == 0 ? least : most;
            } else {
                values[i] = least + below(most - least + 1);
            }
        }
        if (method.getName().equals("pass") && below(4) != 0) {
            values[0] = 1 + below(3);
        }
        if (method.getName().equals("moor") && below(2) == 0) {
            values[3] = 20 + below(40);
        }
        return values;
    }

    private static int[] bounds(String name) {
        switch (name) {
            case "moor": return new int[] {0, 9, 1, 99, 1, 40, 1, 60};
            case "load": return new int[] {0, 9, 1, 20};
            case "drop":
            case "bagWeight": return new int[] {0, 9, 0, 5};
            case "rise":
            case "fewestDrops":
            case "fewestDropsBySets":
            case "dropWeight": return new int[] {0, 9, 1, 40};
            case "setWind": return new int[] {0, 23, -9, 9};
            case "addPilot": return new int[] {1, 30, 0, 23, 0, 23};
            case "isOnDuty": return new int[] {0, 5, 0, 23};
            case "canCrew": return new int[] {0, 5, 0, 9};
            case "removePilot": return new int[] {0, 5};
            case "wind": return new int[] {0, 23};
            case "pass": return new int[] {1, 48};
            case "lineCharacter": return new int[] {0, 20};
            case "feed": return new int[] {32, 122};
            default: return new int[] {0, 9};
        }
    }

    /** A text of commands, now and then with a changed character; its last character asks for execute. */
    private String text() {
        StringBuilder text = new StringBuilder();
        int commands = 1 + below(4);
        for (int i = 0; i < commands; i++) {
            String command = command();
            if (text.length() + command.length() < 60) {
                text.append(i == 0 ? "" : ";").append(command);
            }
        }
        if (below(4) == 0) {
            text.setCharAt(below(text.length()), "0159 ;=-alx".charAt(below(11)));
        }
        if (below(10) == 0) {
            text.setLength(below(text.length()));
        }
        return text.append('\n').toString();
    }

    private String command() {
        switch (below(12)) {
            case 0:
            case 1: return "moor " + below(10) + " " + (1 + below(99)) + " " + (1 + below(40)) + " " + (1 + below(60));
            case 2: return "cast " + below(10);
            case 3:
            case 4: return "load " + below(10) + " " + (1 + below(20));
            case 5: return "drop " + below(10) + " " + below(3);
            case 6: return "rise " + below(10) + " " + (1 + below(40));
            case 7: return "wind " + below(24) + "=" + (below(2) == 0 ? "-" : "") + below(10);
            case 8: return "wait " + below(5);
            case 9: return "pilot " + (1 + below(30)) + " " + below(24) + "-" + below(24);
            case 10: return "leave " + below(4);
            default: return "moor " + below(10) + " 40 20 40";
        }
    }
}
