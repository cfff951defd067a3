import java.util.Arrays;
import java.util.NoSuchElementException;

/** A harbour of moored balloons, as ../shared/DOC.md promises it. */
public final class BalloonHarbour {
    private static final int BERTHS = 10;
    private static final int HIGHEST_LIFT = 99;
    private static final int LONGEST_STRING = 40;
    private static final int HIGHEST_STRENGTH = 60;
    private static final int BAG_LIMIT = 6;
    private static final int HEAVIEST_BAG = 20;
    private static final int HOURS_OF_DAY = 24;
    private static final int STRONGEST_WIND = 9;
    private static final int PILOT_LIMIT = 6;
    private static final int HEAVIEST_PILOT = 30;
    private static final int LONGEST_PASS = 48;
    private static final int UNDO_LIMIT = 8;
    private static final int TEXT_LIMIT = 60;
    /** Eight of the shortest commands fill a text; a ninth can begin, and must be read to find its fault. */
    private static final int COMMAND_SLOTS = 9;
    private static final int NONE = -1;

    private static final int MOOR = 0;
    private static final int CAST = 1;
    private static final int LOAD = 2;
    private static final int DROP = 3;
    private static final int RISE = 4;
    private static final int WIND = 5;
    private static final int WAIT = 6;
    private static final int PILOT = 7;
    private static final int LEAVE = 8;
    private static final int COMMAND_KINDS = 9;

    // Why a change is refused: 1 to 7 are the document's numbers of denials and causes, the others are ours.
    private static final int FINE = 0;
    private static final int LIMIT_REACHED = 1;
    private static final int BERTH_TAKEN = 2;
    private static final int NO_DROP_SET = 3;
    private static final int HEIGHT_REACHED = 4;
    private static final int SAME_VALUE = 5;
    private static final int COMMAND_FAILED = 6;
    private static final int OTHER_EXCEPTION = 7;
    private static final int BAD_ARGUMENT = 8;
    private static final int NO_ELEMENT = 9;
    private static final int BAD_INDEX = 10;

    private final Harbour harbour = new Harbour();
    /** Takes what must not, or not yet, happen to the harbour itself. */
    private final Harbour trial = new Harbour();
    private final Harbour snapshot = new Harbour();
    private boolean snapshotSaved = false;
    private final History history = new History();
    private final Command direct = new Command();
    private final Text text = new Text();
    private final StringBuilder line = new StringBuilder();
    private final Tops tops = new Tops();
    private final Crews crews = new Crews();
    private int keptFault = NONE;
    private int latestDenial = NONE;
    private int latestDetail = 0;
    private int latestCause = NONE;

    public BalloonHarbour() {
    }

    // ---- balloons

    public int moor(int berth, int lift, int string, int strength)
            throws IllegalArgumentException, UnsupportedOperationException {
        return change(MOOR, berth, lift, string, strength);
    }

    public int castOff(int berth) throws NoSuchElementException {
        return change(CAST, berth, 0, 0, 0);
    }

    public int balloonCount() {
        return harbour.countBalloons();
    }

    public boolean isMoored(int berth) throws IllegalArgumentException {
        if (!isWithin(berth, 0, BERTHS - 1)) {
            throw new IllegalArgumentException("no such berth");
        }
        return harbour.hasBalloon(berth);
    }

    public int lift(int berth) throws NoSuchElementException {
        return balloonAt(berth).lift;
    }

    public int ballast(int berth) throws NoSuchElementException {
        return balloonAt(berth).ballast;
    }

    public int height(int berth) throws NoSuchElementException {
        return balloonAt(berth).presentHeight();
    }

    public boolean isBursting(int berth) throws NoSuchElementException {
        return balloonAt(berth).isOverstrained();
    }

    public int berthByHeight(int rank) throws NoSuchElementException {
        int berth = harbour.berthAtRank(rank);
        if (berth == NONE) {
            throw new NoSuchElementException("no such rank");
        }
        return berth;
    }

    // ---- bags

    public int load(int berth, int weight)
            throws NoSuchElementException, IllegalArgumentException, UnsupportedOperationException {
        return change(LOAD, berth, weight, 0, 0);
    }

    public int drop(int berth, int bag) throws NoSuchElementException, IndexOutOfBoundsException {
        return change(DROP, berth, bag, 0, 0);
    }

    public int rise(int berth, int height)
            throws NoSuchElementException, IllegalArgumentException, UnsupportedOperationException {
        return change(RISE, berth, height, 0, 0);
    }

    public int bagCount(int berth) throws NoSuchElementException {
        return balloonAt(berth).bagCount;
    }

    public int bagWeight(int berth, int bag) throws NoSuchElementException, IndexOutOfBoundsException {
        Balloon balloon = balloonAt(berth);
        if (!balloon.hasBag(bag)) {
            throw new IndexOutOfBoundsException("no such bag");
        }
        return balloon.bags[bag];
    }

    public int fewestDrops(int berth, int height) throws IllegalArgumentException, NoSuchElementException {
        requireHeight(height);
        int bags = balloonAt(berth).fewestBagsByWeight(height);
        if (bags == NONE) {
            throw new NoSuchElementException("no drop set");
        }
        return bags;
    }

    public int fewestDropsBySets(int berth, int height) throws IllegalArgumentException, NoSuchElementException {
        requireHeight(height);
        return Integer.bitCount(requireDropSet(balloonAt(berth), height));
    }

    public int dropWeight(int berth, int height) throws IllegalArgumentException, NoSuchElementException {
        requireHeight(height);
        Balloon balloon = balloonAt(berth);
        return balloon.weightOf(requireDropSet(balloon, height));
    }

    // ---- winds and tangles

    public int setWind(int hour, int wind) throws IllegalArgumentException, UnsupportedOperationException {
        return change(WIND, hour, wind, 0, 0);
    }

    public int wind(int hour) throws IllegalArgumentException {
        if (!isWithin(hour, 0, HOURS_OF_DAY - 1)) {
            throw new IllegalArgumentException("no such hour");
        }
        return harbour.winds[hour];
    }

    public int top(int berth) throws NoSuchElementException {
        balloonAt(berth);
        return harbour.topOf(berth);
    }

    public int tangles() {
        return tops.tangledByPairs(harbour);
    }

    public int tanglesByMerging() {
        return tops.tangledByMerging(harbour);
    }

    public int longestCalm(int strength) throws IllegalArgumentException {
        requireWindStrength(strength);
        return harbour.calmOfTwoDays(strength);
    }

    public int longestCalmByTrying(int strength) throws IllegalArgumentException {
        requireWindStrength(strength);
        return harbour.calmByTrying(strength);
    }

    // ---- pilots

    public int addPilot(int weight, int from, int to)
            throws IllegalArgumentException, UnsupportedOperationException {
        return change(PILOT, weight, from, to, 0);
    }

    public int removePilot(int pilot) throws IndexOutOfBoundsException {
        return change(LEAVE, pilot, 0, 0, 0);
    }

    public int pilotCount() {
        return harbour.pilotCount;
    }

    public boolean isOnDuty(int pilot, int hour) throws IndexOutOfBoundsException, IllegalArgumentException {
        requirePilot(pilot);
        if (!isWithin(hour, 0, HOURS_OF_DAY - 1)) {
            throw new IllegalArgumentException("no such hour");
        }
        return harbour.pilots[pilot].worksAt(hour);
    }

    public boolean canCrew(int pilot, int berth) throws IndexOutOfBoundsException, NoSuchElementException {
        requirePilot(pilot);
        balloonAt(berth);
        return harbour.fitsCrew(pilot, berth);
    }

    public int mostCrewed() {
        return crews.mostByChanging(harbour);
    }

    public int mostCrewedBySets() {
        return crews.mostBySets(harbour);
    }

    // ---- hours and accounts

    public int pass(int hours) throws IllegalArgumentException {
        return change(WAIT, hours, 0, 0, 0);
    }

    public int burstsAhead() {
        trial.copyFrom(harbour);
        return trial.passHours(1);
    }

    public int hour() {
        return harbour.hours;
    }

    public int bursts() {
        return harbour.burstCount;
    }

    public int loaded() {
        return harbour.loadedWeight;
    }

    public int aboard() {
        return harbour.weightAboard();
    }

    public int dropped() {
        return harbour.droppedWeight;
    }

    public int lost() {
        return harbour.lostWeight;
    }

    public double meanHeight() throws ArithmeticException {
        int count = harbour.countBalloons();
        if (count == 0) {
            throw new ArithmeticException("no balloons");
        }
        return (double) harbour.sumOfHeights() / (double) count;
    }

    public float strain(int berth) throws NoSuchElementException {
        Balloon balloon = balloonAt(berth);
        return (float) balloon.presentHeight() / (float) balloon.strength;
    }

    // ---- texts and output lines

    public int feed(char character) throws IllegalStateException {
        if (text.length >= TEXT_LIMIT) {
            throw new IllegalStateException("the text buffer is full");
        }
        text.append(character);
        return text.length;
    }

    public int execute() throws IllegalArgumentException, UnsupportedOperationException {
        boolean matches = text.read();
        text.length = 0;
        if (!matches) {
            keptFault = text.position;
            throw new IllegalArgumentException("the text does not match the grammar");
        }
        trial.copyFrom(harbour);
        for (int index = 0; index < text.commandCount; index++) {
            int refusal = trial.refusalOf(text.commands[index]);
            if (refusal != FINE) {
                keepDenial(COMMAND_FAILED, index, refusal < COMMAND_FAILED ? refusal : OTHER_EXCEPTION);
                throw new UnsupportedOperationException("a command failed");
            }
            trial.carryOut(text.commands[index]);
        }
        history.remember(harbour);
        harbour.copyFrom(trial);
        return text.commandCount;
    }

    public int faultPosition() throws NoSuchElementException {
        if (keptFault == NONE) {
            throw new NoSuchElementException("no fault position was kept");
        }
        return keptFault;
    }

    public int writeBalloon(int berth) throws NoSuchElementException {
        Balloon balloon = balloonAt(berth);
        line.setLength(0);
        line.append(berth).append(':').append(balloon.presentHeight()).append('/').append(balloon.string);
        if (balloon.isOverstrained()) {
            line.append('!');
        }
        for (int bag = 0; bag < balloon.bagCount; bag++) {
            line.append('+').append(balloon.bags[bag]);
        }
        return line.length();
    }

    public char lineCharacter(int index) throws IndexOutOfBoundsException {
        if (!isWithin(index, 0, line.length() - 1)) {
            throw new IndexOutOfBoundsException("no such index");
        }
        return line.charAt(index);
    }

    // ---- the latest denial

    public int denial() throws NoSuchElementException {
        requireDenial();
        return latestDenial;
    }

    public int denialDetail() throws NoSuchElementException {
        requireDenial();
        return latestDetail;
    }

    public int denialCause() throws NoSuchElementException {
        requireDenial();
        if (latestCause == NONE) {
            throw new NoSuchElementException("the latest denial has no cause");
        }
        return latestCause;
    }

    // ---- undo and snapshots

    public int undo() throws IllegalStateException {
        if (history.count == 0) {
            throw new IllegalStateException("nothing can be undone");
        }
        history.bringBack(harbour);
        return history.count;
    }

    public int undoCount() {
        return history.count;
    }

    public int saveSnapshot() {
        snapshot.copyFrom(harbour);
        snapshotSaved = true;
        return harbour.countBalloons();
    }

    public int restoreSnapshot() throws IllegalStateException {
        if (!snapshotSaved) {
            throw new IllegalStateException("there is no snapshot");
        }
        harbour.copyFrom(snapshot);
        history.count = 0;
        return harbour.countBalloons();
    }

    private int change(int kind, int first, int second, int third, int fourth) {
        direct.set(kind, first, second, third, fourth);
        int refusal = harbour.refusalOf(direct);
        if (refusal != FINE) {
            refuse(refusal);
        }
        history.remember(harbour);
        return harbour.carryOut(direct);
    }

    private void refuse(int refusal) {
        switch (refusal) {
            case BAD_ARGUMENT:
                throw new IllegalArgumentException("a parameter is out of range");
            case NO_ELEMENT:
                throw new NoSuchElementException("no balloon is moored there");
            case BAD_INDEX:
                throw new IndexOutOfBoundsException("no such index");
            default:
                keepDenial(refusal, harbour.detailOf(refusal, direct), NONE);
                throw new UnsupportedOperationException("denied");
        }
    }

    private void keepDenial(int number, int detail, int cause) {
        latestDenial = number;
        latestDetail = detail;
        latestCause = cause;
    }

    private Balloon balloonAt(int berth) {
        if (!harbour.hasBalloon(berth)) {
            throw new NoSuchElementException("no balloon is moored there");
        }
        return harbour.balloons[berth];
    }

    private void requirePilot(int pilot) {
        if (!harbour.hasPilot(pilot)) {
            throw new IndexOutOfBoundsException("no such pilot");
        }
    }

    private void requireDenial() {
        if (latestDenial == NONE) {
            throw new NoSuchElementException("nothing was denied");
        }
    }

    private static void requireHeight(int height) {
        if (!isWithin(height, 1, LONGEST_STRING)) {
            throw new IllegalArgumentException("the height is out of range");
        }
    }

    private static void requireWindStrength(int strength) {
        if (!isWithin(strength, 0, STRONGEST_WIND)) {
            throw new IllegalArgumentException("the strength is out of range");
        }
    }

    private static int requireDropSet(Balloon balloon, int height) {
        int set = balloon.bestDropSet(height);
        if (set == NONE) {
            throw new NoSuchElementException("no drop set");
        }
        return set;
    }

    private static boolean isWithin(int value, int least, int greatest) {
        return value >= least && value <= greatest;
    }

    /** One berth's balloon; on an empty berth it stays as a place for the next one. */
    private static final class Balloon {
        private boolean moored = false;
        private int lift = 1;
        private int string = 1;
        private int strength = 1;
        private int ballast = 0;
        private int bagCount = 0;
        private final int[] bags = new int[BAG_LIMIT];

        void copyFrom(Balloon other) {
            moored = other.moored;
            lift = other.lift;
            string = other.string;
            strength = other.strength;
            ballast = other.ballast;
            bagCount = other.bagCount;
            System.arraycopy(other.bags, 0, bags, 0, BAG_LIMIT);
        }

        void begin(int newLift, int newString, int newStrength) {
            moored = true;
            lift = newLift;
            string = newString;
            strength = newStrength;
            ballast = 0;
            bagCount = 0;
        }

        int spareLift() {
            return lift > ballast ? lift - ballast : 0;
        }

        int heightWith(int weight) {
            int spare = lift > weight ? lift - weight : 0;
            return spare < string ? spare : string;
        }

        int presentHeight() {
            return heightWith(ballast);
        }

        boolean isOverstrained() {
            return heightWith(ballast) > strength;
        }

        void changeLift(int step) {
            if (isWithin(lift + step, 1, HIGHEST_LIFT)) {
                lift += step;
            }
        }

        boolean hasBag(int bag) {
            return bag >= 0 && bag < bagCount;
        }

        void addBag(int weight) {
            if (bagCount < BAG_LIMIT) {
                bags[bagCount] = weight;
                bagCount++;
                ballast += weight;
            }
        }

        int removeBag(int bag) {
            if (!hasBag(bag)) {
                return 0;
            }
            int weight = bags[bag];
            for (int later = bag + 1; later < bagCount; later++) {
                bags[later - 1] = bags[later];
            }
            bagCount--;
            ballast -= weight;
            return weight;
        }

        int weightOf(int set) {
            int weight = 0;
            for (int bag = 0; bag < bagCount; bag++) {
                if ((set & 1 << bag) != 0) {
                    weight += bags[bag];
                }
            }
            return weight;
        }

        /** The best drop set as bits by index, or NONE. */
        int bestDropSet(int height) {
            int best = NONE;
            for (int set = 0; set < 1 << bagCount; set++) {
                boolean suffices = heightWith(ballast - weightOf(set)) >= height;
                if (suffices && (best == NONE || isBetter(set, best))) {
                    best = set;
                }
            }
            return best;
        }

        private boolean isBetter(int set, int other) {
            int moreBags = Integer.bitCount(set) - Integer.bitCount(other);
            if (moreBags != 0) {
                return moreBags < 0;
            }
            int moreWeight = weightOf(set) - weightOf(other);
            if (moreWeight != 0) {
                return moreWeight < 0;
            }
            int inOneOnly = set ^ other;
            int lowestOfThem = inOneOnly & -inOneOnly;
            return (set & lowestOfThem) != 0;
        }

        int fewestBagsByWeight(int height) {
            int taken = 0;
            for (int count = 0; count <= bagCount; count++) {
                if (heightWith(ballast - weightOf(taken)) >= height) {
                    return count;
                }
                taken |= heaviestOutside(taken);
            }
            return NONE;
        }

        /** The heaviest bag outside a set, as a bit; 0 if the set has all bags. */
        private int heaviestOutside(int set) {
            int heaviest = 0;
            int weight = 0;
            for (int bag = 0; bag < bagCount; bag++) {
                if ((set & 1 << bag) == 0 && bags[bag] > weight) {
                    heaviest = 1 << bag;
                    weight = bags[bag];
                }
            }
            return heaviest;
        }
    }

    private static final class Pilot {
        private int weight = 1;
        private int from = 0;
        private int to = 0;

        void set(int newWeight, int newFrom, int newTo) {
            weight = newWeight;
            from = newFrom;
            to = newTo;
        }

        void copyFrom(Pilot other) {
            set(other.weight, other.from, other.to);
        }

        boolean worksAt(int hourOfDay) {
            if (from <= to) {
                return hourOfDay >= from && hourOfDay <= to;
            }
            return hourOfDay >= from || hourOfDay <= to;
        }
    }

    /** A change that is asked for, from a call or from a text. */
    private static final class Command {
        private int kind = MOOR;
        private int valueCount = 0;
        private final int[] values = new int[4];

        void begin(int newKind) {
            kind = newKind;
            valueCount = 0;
        }

        void add(int value) {
            if (valueCount < values.length) {
                values[valueCount] = value;
                valueCount++;
            }
        }

        void set(int newKind, int first, int second, int third, int fourth) {
            begin(newKind);
            add(first);
            add(second);
            add(third);
            add(fourth);
        }
    }

    /** Everything that changes can change. */
    private static final class Harbour {
        private final Balloon[] balloons = new Balloon[BERTHS];
        private final int[] winds = new int[HOURS_OF_DAY];
        private final Pilot[] pilots = new Pilot[PILOT_LIMIT];
        private int pilotCount = 0;
        private int hours = 0;
        private int burstCount = 0;
        private int loadedWeight = 0;
        private int droppedWeight = 0;
        private int lostWeight = 0;
        // The queue is empty between two hours, so it is not copied.
        private final int[] queue = new int[BERTHS];
        private int queueLength = 0;
        private int queuedBerths = 0;

        Harbour() {
            for (int berth = 0; berth < BERTHS; berth++) {
                balloons[berth] = new Balloon();
            }
            for (int pilot = 0; pilot < PILOT_LIMIT; pilot++) {
                pilots[pilot] = new Pilot();
            }
        }

        void copyFrom(Harbour other) {
            for (int berth = 0; berth < BERTHS; berth++) {
                balloons[berth].copyFrom(other.balloons[berth]);
            }
            System.arraycopy(other.winds, 0, winds, 0, HOURS_OF_DAY);
            for (int pilot = 0; pilot < PILOT_LIMIT; pilot++) {
                pilots[pilot].copyFrom(other.pilots[pilot]);
            }
            pilotCount = other.pilotCount;
            hours = other.hours;
            burstCount = other.burstCount;
            loadedWeight = other.loadedWeight;
            droppedWeight = other.droppedWeight;
            lostWeight = other.lostWeight;
        }

        boolean hasBalloon(int berth) {
            return berth >= 0 && berth < BERTHS && balloons[berth].moored;
        }

        boolean hasPilot(int pilot) {
            return pilot >= 0 && pilot < pilotCount;
        }

        int hourOfDay() {
            return hours % HOURS_OF_DAY;
        }

        int countBalloons() {
            int count = 0;
            for (int berth = 0; berth < BERTHS; berth++) {
                if (balloons[berth].moored) {
                    count++;
                }
            }
            return count;
        }

        int weightAboard() {
            int weight = 0;
            for (int berth = 0; berth < BERTHS; berth++) {
                if (balloons[berth].moored) {
                    weight += balloons[berth].ballast;
                }
            }
            return weight;
        }

        int sumOfHeights() {
            int sum = 0;
            for (int berth = 0; berth < BERTHS; berth++) {
                if (balloons[berth].moored) {
                    sum += balloons[berth].presentHeight();
                }
            }
            return sum;
        }

        int berthAtRank(int rank) {
            for (int berth = 0; berth < BERTHS; berth++) {
                if (balloons[berth].moored && countAhead(berth) == rank) {
                    return berth;
                }
            }
            return NONE;
        }

        private int countAhead(int berth) {
            int count = 0;
            for (int other = 0; other < BERTHS; other++) {
                if (balloons[other].moored && isAhead(other, berth)) {
                    count++;
                }
            }
            return count;
        }

        private boolean isAhead(int berth, int other) {
            int higher = balloons[berth].presentHeight() - balloons[other].presentHeight();
            if (higher != 0) {
                return higher > 0;
            }
            int heavier = balloons[berth].ballast - balloons[other].ballast;
            return heavier != 0 ? heavier > 0 : berth < other;
        }

        int topOf(int berth) {
            return 10 * berth + balloons[berth].presentHeight() * winds[hourOfDay()];
        }

        int calmOfTwoDays(int strength) {
            int longest = 0;
            int calm = 0;
            for (int hour = 0; hour < 2 * HOURS_OF_DAY; hour++) {
                calm = Math.abs(winds[hour % HOURS_OF_DAY]) <= strength ? calm + 1 : 0;
                longest = Math.max(longest, calm);
            }
            return Math.min(longest, HOURS_OF_DAY);
        }

        int calmByTrying(int strength) {
            int longest = 0;
            for (int from = 0; from < HOURS_OF_DAY; from++) {
                for (int length = 1; length <= HOURS_OF_DAY; length++) {
                    int last = (from + length - 1) % HOURS_OF_DAY;
                    if (Math.abs(winds[last]) > strength) {
                        break;
                    }
                    longest = Math.max(longest, length);
                }
            }
            return longest;
        }

        boolean fitsCrew(int pilot, int berth) {
            return hasPilot(pilot) && hasBalloon(berth) && pilots[pilot].worksAt(hourOfDay())
                    && balloons[berth].spareLift() >= pilots[pilot].weight;
        }

        /** FINE, a denial's number, or one of the refusals that stand for an exception. */
        int refusalOf(Command command) {
            int first = command.values[0];
            int second = command.values[1];
            int third = command.values[2];
            switch (command.kind) {
                case MOOR:
                    return refusalToMoor(first, second, third, command.values[3]);
                case CAST:
                    return hasBalloon(first) ? FINE : NO_ELEMENT;
                case LOAD:
                    return refusalToLoad(first, second);
                case DROP:
                    return refusalToDrop(first, second);
                case RISE:
                    return refusalToRise(first, second);
                case WIND:
                    return refusalOfWind(first, second);
                case WAIT:
                    return isWithin(first, 1, LONGEST_PASS) ? FINE : BAD_ARGUMENT;
                case PILOT:
                    return refusalOfPilot(first, second, third);
                default:
                    return hasPilot(first) ? FINE : BAD_INDEX;
            }
        }

        private int refusalToMoor(int berth, int lift, int string, int strength) {
            if (!isWithin(berth, 0, BERTHS - 1) || !isWithin(lift, 1, HIGHEST_LIFT)
                    || !isWithin(string, 1, LONGEST_STRING) || !isWithin(strength, 1, HIGHEST_STRENGTH)) {
                return BAD_ARGUMENT;
            }
            return hasBalloon(berth) ? BERTH_TAKEN : FINE;
        }

        private int refusalToLoad(int berth, int weight) {
            if (!hasBalloon(berth)) {
                return NO_ELEMENT;
            }
            if (!isWithin(weight, 1, HEAVIEST_BAG)) {
                return BAD_ARGUMENT;
            }
            return balloons[berth].bagCount >= BAG_LIMIT ? LIMIT_REACHED : FINE;
        }

        private int refusalToDrop(int berth, int bag) {
            if (!hasBalloon(berth)) {
                return NO_ELEMENT;
            }
            return balloons[berth].hasBag(bag) ? FINE : BAD_INDEX;
        }

        private int refusalToRise(int berth, int height) {
            if (!hasBalloon(berth)) {
                return NO_ELEMENT;
            }
            if (!isWithin(height, 1, LONGEST_STRING)) {
                return BAD_ARGUMENT;
            }
            if (balloons[berth].presentHeight() >= height) {
                return HEIGHT_REACHED;
            }
            return balloons[berth].heightWith(0) < height ? NO_DROP_SET : FINE;
        }

        private int refusalOfWind(int hour, int wind) {
            if (!isWithin(hour, 0, HOURS_OF_DAY - 1) || !isWithin(wind, -STRONGEST_WIND, STRONGEST_WIND)) {
                return BAD_ARGUMENT;
            }
            return winds[hour] == wind ? SAME_VALUE : FINE;
        }

        private int refusalOfPilot(int weight, int from, int to) {
            if (!isWithin(weight, 1, HEAVIEST_PILOT) || !isWithin(from, 0, HOURS_OF_DAY - 1)
                    || !isWithin(to, 0, HOURS_OF_DAY - 1)) {
                return BAD_ARGUMENT;
            }
            return pilotCount >= PILOT_LIMIT ? LIMIT_REACHED : FINE;
        }

        /** The detail of a denial that refusalOf answered for this command. */
        int detailOf(int refusal, Command command) {
            if (refusal == LIMIT_REACHED) {
                return command.kind == PILOT ? PILOT_LIMIT : BAG_LIMIT;
            }
            if (refusal == SAME_VALUE) {
                return command.values[1];
            }
            int berth = command.values[0];
            if (!hasBalloon(berth)) {
                return 0;
            }
            return refusal == NO_DROP_SET ? balloons[berth].heightWith(0) : balloons[berth].presentHeight();
        }

        /** Does what refusalOf has found to be FINE, and answers what the method of the face returns. */
        int carryOut(Command command) {
            int first = command.values[0];
            int second = command.values[1];
            int third = command.values[2];
            switch (command.kind) {
                case MOOR:
                    return putBalloon(first, second, third, command.values[3]);
                case CAST:
                    return removeBalloon(first);
                case LOAD:
                    return loadBag(first, second);
                case DROP:
                    return dropBag(first, second);
                case RISE:
                    return dropBestSet(first, second);
                case WIND:
                    return replaceWind(first, second);
                case WAIT:
                    return passHours(first);
                case PILOT:
                    return putPilot(first, second, third);
                default:
                    return takePilot(first);
            }
        }

        private int putBalloon(int berth, int lift, int string, int strength) {
            if (!isWithin(berth, 0, BERTHS - 1)) {
                return 0;
            }
            balloons[berth].begin(lift, string, strength);
            return balloons[berth].presentHeight();
        }

        private int removeBalloon(int berth) {
            if (!hasBalloon(berth)) {
                return 0;
            }
            balloons[berth].moored = false;
            droppedWeight += balloons[berth].ballast;
            return balloons[berth].ballast;
        }

        private int loadBag(int berth, int weight) {
            if (!hasBalloon(berth)) {
                return 0;
            }
            balloons[berth].addBag(weight);
            loadedWeight += weight;
            return balloons[berth].ballast;
        }

        private int dropBag(int berth, int bag) {
            if (!hasBalloon(berth)) {
                return 0;
            }
            int weight = balloons[berth].removeBag(bag);
            droppedWeight += weight;
            return weight;
        }

        private int dropBestSet(int berth, int height) {
            int set = hasBalloon(berth) ? balloons[berth].bestDropSet(height) : NONE;
            if (set == NONE) {
                return 0;
            }
            // From the last bag on, as the indices behind a dropped bag change.
            for (int bag = BAG_LIMIT - 1; bag >= 0; bag--) {
                if ((set & 1 << bag) != 0) {
                    dropBag(berth, bag);
                }
            }
            return Integer.bitCount(set);
        }

        private int replaceWind(int hour, int wind) {
            if (!isWithin(hour, 0, HOURS_OF_DAY - 1)) {
                return 0;
            }
            int before = winds[hour];
            winds[hour] = wind;
            return before;
        }

        private int putPilot(int weight, int from, int to) {
            if (pilotCount >= PILOT_LIMIT) {
                return NONE;
            }
            pilots[pilotCount].set(weight, from, to);
            pilotCount++;
            return pilotCount - 1;
        }

        private int takePilot(int pilot) {
            if (hasPilot(pilot)) {
                for (int later = pilot + 1; later < pilotCount; later++) {
                    pilots[later - 1].copyFrom(pilots[later]);
                }
                pilotCount--;
            }
            return pilotCount;
        }

        int passHours(int count) {
            int burst = 0;
            for (int passed = 0; passed < count; passed++) {
                hours++;
                int step = isWithin(hourOfDay(), 6, 17) ? 1 : -1;
                for (int berth = 0; berth < BERTHS; berth++) {
                    balloons[berth].changeLift(step);
                }
                burst += burstBalloons();
            }
            return burst;
        }

        private int burstBalloons() {
            queueLength = 0;
            queuedBerths = 0;
            for (int berth = 0; berth < BERTHS; berth++) {
                queueIfOverstrained(berth);
            }
            // A balloon comes into the queue once at most, so what has left the queue can stay in its array.
            for (int head = 0; head < queueLength && head < BERTHS; head++) {
                int berth = queue[head];
                balloons[berth].moored = false;
                lostWeight += balloons[berth].ballast;
                shake(berth - 1);
                queueIfOverstrained(berth - 1);
                shake(berth + 1);
                queueIfOverstrained(berth + 1);
            }
            burstCount += queueLength;
            return queueLength;
        }

        private void shake(int berth) {
            if (hasBalloon(berth)) {
                lostWeight += balloons[berth].removeBag(balloons[berth].bagCount - 1);
            }
        }

        private void queueIfOverstrained(int berth) {
            if (!hasBalloon(berth) || (queuedBerths & 1 << berth) != 0) {
                return;
            }
            if (balloons[berth].isOverstrained() && queueLength < BERTHS) {
                queue[queueLength] = berth;
                queueLength++;
                queuedBerths |= 1 << berth;
            }
        }
    }

    /** The harbours before the latest changes. */
    private static final class History {
        private final Harbour[] earlier = new Harbour[UNDO_LIMIT];
        private int next = 0;
        private int count = 0;

        History() {
            for (int slot = 0; slot < UNDO_LIMIT; slot++) {
                earlier[slot] = new Harbour();
            }
        }

        void remember(Harbour harbour) {
            earlier[next].copyFrom(harbour);
            next = (next + 1) % UNDO_LIMIT;
            count = Math.min(count + 1, UNDO_LIMIT);
        }

        void bringBack(Harbour harbour) {
            if (count > 0) {
                next = (next + UNDO_LIMIT - 1) % UNDO_LIMIT;
                count--;
                harbour.copyFrom(earlier[next]);
            }
        }
    }

    /** The text buffer, and the commands that were read from it last. */
    private static final class Text {
        private final char[] characters = new char[TEXT_LIMIT];
        private int length = 0;
        private final Command[] commands = new Command[COMMAND_SLOTS];
        private int commandCount = 0;
        private int position = 0;

        Text() {
            for (int slot = 0; slot < COMMAND_SLOTS; slot++) {
                commands[slot] = new Command();
            }
        }

        void append(char character) {
            if (length < TEXT_LIMIT) {
                characters[length] = character;
                length++;
            }
        }

        /** Whether the text matches the grammar; if not, the position is the fault position then. */
        boolean read() {
            position = 0;
            commandCount = 0;
            while (commandCount < COMMAND_SLOTS) {
                if (!readCommand(commands[commandCount])) {
                    return false;
                }
                commandCount++;
                if (position >= length) {
                    return true;
                }
                if (!readCharacter(';')) {
                    return false;
                }
            }
            return false;
        }

        private boolean readCommand(Command command) {
            int start = position;
            int farthest = start;
            for (int kind = 0; kind < COMMAND_KINDS; kind++) {
                position = start;
                if (readAs(kind, command)) {
                    return true;
                }
                farthest = Math.max(farthest, position);
            }
            position = farthest;
            return false;
        }

        private boolean readAs(int kind, Command command) {
            String form = formOf(kind);
            command.begin(kind);
            for (int index = 0; index < form.length(); index++) {
                if (!readPart(form.charAt(index), command)) {
                    return false;
                }
            }
            return true;
        }

        /** D stands for a digit, N for a number, S for a digit with or without "-". */
        private static String formOf(int kind) {
            switch (kind) {
                case MOOR:
                    return "moor D N N N";
                case CAST:
                    return "cast D";
                case LOAD:
                    return "load D N";
                case DROP:
                    return "drop D D";
                case RISE:
                    return "rise D N";
                case WIND:
                    return "wind N=S";
                case WAIT:
                    return "wait N";
                case PILOT:
                    return "pilot N N-N";
                default:
                    return "leave D";
            }
        }

        private boolean readPart(char part, Command command) {
            switch (part) {
                case 'D':
                    return readNumber(1, 1, command);
                case 'N':
                    return readNumber(2, 1, command);
                case 'S':
                    return readNumber(1, readCharacter('-') ? -1 : 1, command);
                default:
                    return readCharacter(part);
            }
        }

        private boolean readNumber(int mostDigits, int sign, Command command) {
            int number = 0;
            int digits = 0;
            while (digits < mostDigits && position < length && isWithin(characters[position], '0', '9')) {
                number = 10 * number + characters[position] - '0';
                position++;
                digits++;
            }
            command.add(sign * number);
            return digits > 0;
        }

        private boolean readCharacter(char character) {
            if (position < length && characters[position] == character) {
                position++;
                return true;
            }
            return false;
        }
    }

    /** Counts tangled strings: pairs of tops in the order of the berths of which the first is greater. */
    private static final class Tops {
        private static final int DEEPEST_HALVING = 4;
        private final int[] tops = new int[BERTHS];
        private final int[] merged = new int[BERTHS];

        private int collect(Harbour harbour) {
            int count = 0;
            for (int berth = 0; berth < BERTHS; berth++) {
                if (harbour.hasBalloon(berth)) {
                    tops[count] = harbour.topOf(berth);
                    count++;
                }
            }
            return count;
        }

        int tangledByPairs(Harbour harbour) {
            int count = collect(harbour);
            int tangled = 0;
            for (int lower = 0; lower < count; lower++) {
                for (int upper = lower + 1; upper < count; upper++) {
                    if (tops[lower] > tops[upper]) {
                        tangled++;
                    }
                }
            }
            return tangled;
        }

        int tangledByMerging(Harbour harbour) {
            return sortAndCount(tops, merged, 0, collect(harbour), 0);
        }

        private static int sortAndCount(int[] tops, int[] merged, int from, int to, int depth) {
            if (to - from < 2 || depth > DEEPEST_HALVING) {
                return 0;
            }
            int middle = (from + to) / 2;
            return sortAndCount(tops, merged, from, middle, depth + 1)
                    + sortAndCount(tops, merged, middle, to, depth + 1)
                    + mergeAndCount(tops, merged, from, middle, to);
        }

        private static int mergeAndCount(int[] tops, int[] merged, int from, int middle, int to) {
            int left = from;
            int right = middle;
            int tangled = 0;
            for (int place = from; place < to; place++) {
                if (right >= to || left < middle && tops[left] <= tops[right]) {
                    merged[place] = tops[left];
                    left++;
                } else {
                    merged[place] = tops[right];
                    right++;
                    tangled += middle - left;
                }
            }
            System.arraycopy(merged, from, tops, from, to - from);
            return tangled;
        }
    }

    /** Finds how many balloons can be crewed at the same time. */
    private static final class Crews {
        private static final int PILOT_SETS = 1 << PILOT_LIMIT;
        private final int[] pilotOf = new int[BERTHS];
        private final int[] asked = new int[BERTHS];
        private final int[] reachable = new int[PILOT_SETS];

        int mostByChanging(Harbour harbour) {
            Arrays.fill(pilotOf, NONE);
            int crewed = 0;
            for (int pilot = 0; pilot < harbour.pilotCount; pilot++) {
                Arrays.fill(asked, 0);
                if (findsBalloon(harbour, pilot, pilotOf, asked, 0)) {
                    crewed++;
                }
            }
            return crewed;
        }

        private static boolean findsBalloon(Harbour harbour, int pilot, int[] pilotOf, int[] asked, int depth) {
            if (depth >= PILOT_LIMIT) {
                return false;
            }
            for (int berth = 0; berth < BERTHS; berth++) {
                if (asked[berth] == 0 && harbour.fitsCrew(pilot, berth)) {
                    asked[berth] = 1;
                    if (pilotOf[berth] == NONE
                            || findsBalloon(harbour, pilotOf[berth], pilotOf, asked, depth + 1)) {
                        pilotOf[berth] = pilot;
                        return true;
                    }
                }
            }
            return false;
        }

        int mostBySets(Harbour harbour) {
            Arrays.fill(reachable, 0);
            reachable[0] = 1;
            for (int berth = 0; berth < BERTHS; berth++) {
                giveToOnePilot(harbour, berth);
            }
            int most = 0;
            for (int set = 0; set < PILOT_SETS; set++) {
                if (reachable[set] == 1) {
                    most = Math.max(most, Integer.bitCount(set));
                }
            }
            return most;
        }

        private void giveToOnePilot(Harbour harbour, int berth) {
            // From the greatest set down, so that no set that this balloon has just made is used for it again.
            for (int set = PILOT_SETS - 1; set >= 0; set--) {
                for (int pilot = 0; pilot < harbour.pilotCount && pilot < PILOT_LIMIT; pilot++) {
                    int withPilot = set | 1 << pilot;
                    if (reachable[set] == 1 && withPilot != set && harbour.fitsCrew(pilot, berth)) {
                        reachable[withPilot] = 1;
                    }
                }
            }
        }
    }
}
