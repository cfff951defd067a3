import java.util.ArrayDeque;
import java.util.ArrayList;
import java.util.Comparator;
import java.util.Deque;
import java.util.List;
import java.util.NoSuchElementException;
import java.util.TreeMap;

/** The document once more, written for plainness alone: every change works on a whole copy of the state. */
final class Model {
    private static final class Balloon {
        int lift;
        int string;
        int strength;
        List<Integer> bags = new ArrayList<>();

        Balloon copy() {
            Balloon copy = new Balloon();
            copy.lift = lift;
            copy.string = string;
            copy.strength = strength;
            copy.bags.addAll(bags);
            return copy;
        }

        int ballast() {
            return bags.stream().mapToInt(w -> w).sum();
        }

        int spare() {
            return Math.max(0, lift - ballast());
        }

        int height() {
            return Math.min(string, spare());
        }

        Balloon without(List<Integer> set) {
            Balloon copy = copy();
            for (int i = set.size() - 1; i >= 0; i--) {
                copy.bags.remove((int) set.get(i));
            }
            return copy;
        }

        int weight(List<Integer> set) {
            return set.stream().mapToInt(i -> bags.get(i)).sum();
        }

        /** Ascending indices, or null. */
        List<Integer> best(int height) {
            List<List<Integer>> sets = new ArrayList<>();
            for (int bits = 0; bits < 1 << bags.size(); bits++) {
                List<Integer> set = new ArrayList<>();
                for (int i = 0; i < bags.size(); i++) {
                    if ((bits >> i & 1) == 1) {
                        set.add(i);
                    }
                }
                if (without(set).height() >= height) {
                    sets.add(set);
                }
            }
            // Of sets of one size, the one with the lowest index in one alone comes first as a text, too.
            return sets.stream().min(Comparator.<List<Integer>>comparingInt(List::size)
                    .thenComparingInt(this::weight).thenComparing(List::toString)).orElse(null);
        }
    }

    private static final class State {
        TreeMap<Integer, Balloon> balloons = new TreeMap<>();
        List<int[]> pilots = new ArrayList<>();
        int[] winds = new int[24];
        int hour;
        int bursts;
        int loaded;
        int dropped;
        int lost;

        State copy() {
            State copy = new State();
            balloons.forEach((berth, balloon) -> copy.balloons.put(berth, balloon.copy()));
            copy.pilots.addAll(pilots);
            copy.winds = winds.clone();
            copy.hour = hour;
            copy.bursts = bursts;
            copy.loaded = loaded;
            copy.dropped = dropped;
            copy.lost = lost;
            return copy;
        }

        int hourPasses() {
            hour++;
            int t = hour % 24;
            for (Balloon b : balloons.values()) {
                b.lift = t >= 6 && t <= 17 ? Math.min(99, b.lift + 1) : Math.max(1, b.lift - 1);
            }
            Deque<Integer> queue = new ArrayDeque<>();
            balloons.forEach((berth, b) -> {
                if (b.height() > b.strength) {
                    queue.add(berth);
                }
            });
            int burst = 0;
            while (!queue.isEmpty()) {
                int berth = queue.remove();
                lost += balloons.remove(berth).ballast();
                burst++;
                for (int near : new int[] {berth - 1, berth + 1}) {
                    Balloon b = balloons.get(near);
                    if (b != null && !b.bags.isEmpty()) {
                        lost += b.bags.remove(b.bags.size() - 1);
                    }
                    if (b != null && b.height() > b.strength && !queue.contains(near)) {
                        queue.add(near);
                    }
                }
            }
            bursts += burst;
            return burst;
        }
    }

    private State state = new State();
    private State snapshot = null;
    private final Deque<State> earlier = new ArrayDeque<>();
    private String buffer = "";
    private String line = "";
    private int fault = -1;
    private int denial = -1;
    private int detail = -1;
    private int cause = -1;

    private static void require(boolean holds, RuntimeException otherwise) {
        if (!holds) {
            throw otherwise;
        }
    }

    private static void argument(int value, int least, int most) {
        require(value >= least && value <= most, new IllegalArgumentException());
    }

    private Balloon balloon(int berth) {
        require(state.balloons.containsKey(berth), new NoSuchElementException());
        return state.balloons.get(berth);
    }

    private void deny(boolean denied, int number, int what) {
        if (denied) {
            denial = number;
            detail = what;
            cause = -1;
            throw new UnsupportedOperationException();
        }
    }

    private void keep() {
        earlier.addLast(state.copy());
        if (earlier.size() > 8) {
            earlier.removeFirst();
        }
    }

    /** A change by its name in a text. */
    private int doCommand(String name, int[] a, boolean keeps) {
        State before = state.copy();
        int answer;
        switch (name) {
            case "moor": answer = moor(a[0], a[1], a[2], a[3]); break;
            case "cast": answer = cast(a[0]); break;
            case "load": answer = load(a[0], a[1]); break;
            case "drop": answer = drop(a[0], a[1]); break;
            case "rise": answer = rise(a[0], a[1]); break;
            case "wind": answer = setWind(a[0], a[1]); break;
            case "wait": answer = pass(a[0]); break;
            case "pilot": answer = addPilot(a[0], a[1], a[2]); break;
            default: answer = removePilot(a[0]);
        }
        if (keeps) {
            State after = state;
            state = before;
            keep();
            state = after;
        }
        return answer;
    }

    private int moor(int berth, int lift, int string, int strength) {
        argument(berth, 0, 9);
        argument(lift, 1, 99);
        argument(string, 1, 40);
        argument(strength, 1, 60);
        if (state.balloons.containsKey(berth)) {
            deny(true, 2, state.balloons.get(berth).height());
        }
        Balloon b = new Balloon();
        b.lift = lift;
        b.string = string;
        b.strength = strength;
        state.balloons.put(berth, b);
        return b.height();
    }

    private int cast(int berth) {
        int ballast = balloon(berth).ballast();
        state.dropped += ballast;
        state.balloons.remove(berth);
        return ballast;
    }

    private int load(int berth, int weight) {
        Balloon b = balloon(berth);
        argument(weight, 1, 20);
        deny(b.bags.size() == 6, 1, 6);
        b.bags.add(weight);
        state.loaded += weight;
        return b.ballast();
    }

    private int drop(int berth, int bag) {
        int weight = bagWeight(berth, bag);
        balloon(berth).bags.remove(bag);
        state.dropped += weight;
        return weight;
    }

    private int rise(int berth, int height) {
        Balloon b = balloon(berth);
        argument(height, 1, 40);
        deny(b.height() >= height, 4, b.height());
        List<Integer> set = b.best(height);
        deny(set == null, 3, Math.min(b.string, b.lift));
        state.dropped += b.weight(set);
        state.balloons.put(berth, b.without(set));
        return set.size();
    }

    private int setWind(int hour, int wind) {
        argument(hour, 0, 23);
        argument(wind, -9, 9);
        int before = state.winds[hour];
        deny(before == wind, 5, wind);
        state.winds[hour] = wind;
        return before;
    }

    private int pass(int hours) {
        argument(hours, 1, 48);
        int burst = 0;
        for (int i = 0; i < hours; i++) {
            burst += state.hourPasses();
        }
        return burst;
    }

    private int addPilot(int weight, int from, int to) {
        argument(weight, 1, 30);
        argument(from, 0, 23);
        argument(to, 0, 23);
        deny(state.pilots.size() == 6, 1, 6);
        state.pilots.add(new int[] {weight, from, to});
        return state.pilots.size() - 1;
    }

    private int removePilot(int pilot) {
        pilot(pilot);
        state.pilots.remove(pilot);
        return state.pilots.size();
    }

    private int[] pilot(int pilot) {
        require(pilot >= 0 && pilot < state.pilots.size(), new IndexOutOfBoundsException());
        return state.pilots.get(pilot);
    }

    private int bagWeight(int berth, int bag) {
        Balloon b = balloon(berth);
        require(bag >= 0 && bag < b.bags.size(), new IndexOutOfBoundsException());
        return b.bags.get(bag);
    }

    private List<Integer> dropSet(int berth, int height) {
        argument(height, 1, 40);
        List<Integer> set = balloon(berth).best(height);
        require(set != null, new NoSuchElementException());
        return set;
    }

    private int top(int berth) {
        return 10 * berth + balloon(berth).height() * state.winds[state.hour % 24];
    }

    private int tangles() {
        int pairs = 0;
        for (int lower : state.balloons.keySet()) {
            for (int upper : state.balloons.tailMap(lower, false).keySet()) {
                pairs += top(lower) > top(upper) ? 1 : 0;
            }
        }
        return pairs;
    }

    private int longestCalm(int strength) {
        argument(strength, 0, 9);
        for (int length = 24; length > 0; length--) {
            for (int from = 0; from < 24; from++) {
                boolean calm = true;
                for (int i = 0; i < length; i++) {
                    calm &= Math.abs(state.winds[(from + i) % 24]) <= strength;
                }
                if (calm) {
                    return length;
                }
            }
        }
        return 0;
    }

    private boolean onDuty(int pilot, int hour) {
        int[] p = pilot(pilot);
        argument(hour, 0, 23);
        for (int t = p[1];; t = (t + 1) % 24) {
            if (t == hour) {
                return true;
            }
            if (t == p[2]) {
                return false;
            }
        }
    }

    private boolean canCrew(int pilot, int berth) {
        pilot(pilot);
        return balloon(berth).spare() >= pilot(pilot)[0] && onDuty(pilot, state.hour % 24);
    }

    private int mostCrewed(int pilot, List<Integer> free) {
        if (pilot == state.pilots.size()) {
            return 0;
        }
        int most = mostCrewed(pilot + 1, free);
        for (int berth : free) {
            if (most < state.pilots.size() - pilot && canCrew(pilot, berth)) {
                List<Integer> rest = new ArrayList<>(free);
                rest.remove((Integer) berth);
                most = Math.max(most, 1 + mostCrewed(pilot + 1, rest));
            }
        }
        return most;
    }

    private int berthByHeight(int rank) {
        List<Integer> berths = new ArrayList<>(state.balloons.keySet());
        berths.sort(Comparator.<Integer>comparingInt(b -> -balloon(b).height())
                .thenComparingInt(b -> -balloon(b).ballast()));
        require(rank >= 0 && rank < berths.size(), new NoSuchElementException());
        return berths.get(rank);
    }

    private int execute() {
        String text = buffer;
        buffer = "";
        if (!Grammar.matches(text)) {
            fault = Grammar.faultOf(text);
            throw new IllegalArgumentException();
        }
        State before = state.copy();
        int[] kept = {denial, detail, cause};
        String[] commands = text.split(";");
        for (int i = 0; i < commands.length; i++) {
            String command = commands[i];
            String[] words = command.substring(command.indexOf(' ') + 1).replace("=", " ").split(
                    command.startsWith("pilot") ? "[ -]" : " ");
            int[] values = new int[words.length];
            for (int w = 0; w < words.length; w++) {
                values[w] = Integer.parseInt(words[w]);
            }
            try {
                doCommand(command.substring(0, command.indexOf(' ')), values, false);
            } catch (RuntimeException e) {
                cause = e instanceof UnsupportedOperationException ? denial : 7;
                denial = 6;
                detail = i;
                state = before;
                throw new UnsupportedOperationException();
            }
        }
        denial = kept[0];
        detail = kept[1];
        cause = kept[2];
        State after = state;
        state = before;
        keep();
        state = after;
        return commands.length;
    }

    private int writeBalloon(int berth) {
        Balloon b = balloon(berth);
        line = berth + ":" + b.height() + "/" + b.string + (b.height() > b.strength ? "!" : "");
        for (int weight : b.bags) {
            line += "+" + weight;
        }
        return line.length();
    }

    private int kept(int value) {
        require(denial != -1 && value != -1, new NoSuchElementException());
        return value;
    }

    private Object denialDetail() {
        require(denial != -1, new NoSuchElementException());
        return detail;
    }

    private int undo() {
        require(!earlier.isEmpty(), new IllegalStateException());
        state = earlier.removeLast();
        return earlier.size();
    }

    private int restoreSnapshot() {
        require(snapshot != null, new IllegalStateException());
        state = snapshot.copy();
        earlier.clear();
        return state.balloons.size();
    }

    private int feed(char c) {
        require(buffer.length() < 60, new IllegalStateException());
        buffer += c;
        return buffer.length();
    }

    private int fault() {
        require(fault != -1, new NoSuchElementException());
        return fault;
    }

    private char lineCharacter(int index) {
        require(index >= 0 && index < line.length(), new IndexOutOfBoundsException());
        return line.charAt(index);
    }

    private int wind(int hour) {
        argument(hour, 0, 23);
        return state.winds[hour];
    }

    private boolean isMoored(int berth) {
        argument(berth, 0, 9);
        return state.balloons.containsKey(berth);
    }

    private double meanHeight() {
        require(!state.balloons.isEmpty(), new ArithmeticException());
        int sum = state.balloons.values().stream().mapToInt(Balloon::height).sum();
        return (double) sum / (double) state.balloons.size();
    }

    private int saveSnapshot() {
        snapshot = state.copy();
        return state.balloons.size();
    }

    private int aboard() {
        return state.balloons.values().stream().mapToInt(Balloon::ballast).sum();
    }

    /** A call by the name of the method. */
    Object call(String method, int[] a) {
        switch (method) {
            case "moor": return doCommand("moor", a, true);
            case "castOff": return doCommand("cast", a, true);
            case "balloonCount": return state.balloons.size();
            case "isMoored": return isMoored(a[0]);
            case "lift": return balloon(a[0]).lift;
            case "ballast": return balloon(a[0]).ballast();
            case "height": return balloon(a[0]).height();
            case "isBursting": return balloon(a[0]).height() > balloon(a[0]).strength;
            case "berthByHeight": return berthByHeight(a[0]);
            case "load": return doCommand("load", a, true);
            case "drop": return doCommand("drop", a, true);
            case "rise": return doCommand("rise", a, true);
            case "bagCount": return balloon(a[0]).bags.size();
            case "bagWeight": return bagWeight(a[0], a[1]);
            case "fewestDrops":
            case "fewestDropsBySets": return dropSet(a[0], a[1]).size();
            case "dropWeight": return balloonWeight(a[0], dropSet(a[0], a[1]));
            case "setWind": return doCommand("wind", a, true);
            case "wind": return wind(a[0]);
            case "top": return top(a[0]);
            case "tangles":
            case "tanglesByMerging": return tangles();
            case "longestCalm":
            case "longestCalmByTrying": return longestCalm(a[0]);
            default: return callOther(method, a);
        }
    }

    private int balloonWeight(int berth, List<Integer> set) {
        return balloon(berth).weight(set);
    }

    private Object callOther(String method, int[] a) {
        switch (method) {
            case "addPilot": return doCommand("pilot", a, true);
            case "removePilot": return doCommand("leave", a, true);
            case "pilotCount": return state.pilots.size();
            case "isOnDuty": return onDuty(a[0], a[1]);
            case "canCrew": return canCrew(a[0], a[1]);
            case "mostCrewed":
            case "mostCrewedBySets": return mostCrewed(0, new ArrayList<>(state.balloons.keySet()));
            case "pass": return doCommand("wait", a, true);
            case "burstsAhead": return state.copy().hourPasses();
            case "hour": return state.hour;
            case "bursts": return state.bursts;
            case "loaded": return state.loaded;
            case "aboard": return aboard();
            case "dropped": return state.dropped;
            case "lost": return state.lost;
            case "meanHeight": return meanHeight();
            case "strain": return (float) balloon(a[0]).height() / (float) balloon(a[0]).strength;
            case "feed": return feed((char) a[0]);
            case "execute": return execute();
            case "faultPosition": return fault();
            case "writeBalloon": return writeBalloon(a[0]);
            case "lineCharacter": return lineCharacter(a[0]);
            case "denial": return kept(denial);
            case "denialDetail": return denialDetail();
            case "denialCause": return kept(cause);
            case "undo": return undo();
            case "undoCount": return earlier.size();
            case "saveSnapshot": return saveSnapshot();
            case "restoreSnapshot": return restoreSnapshot();
            default: throw new Error("no method " + method);
        }
    }
}
