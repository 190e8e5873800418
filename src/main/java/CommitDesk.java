import java.util.Arrays;

/**
 * A desk that plans a power station's sets hour by hour. What each call promises stands in the
 * project's document; here stand only the reasons for the way it is done.
 */
public final class CommitDesk {
    public static final int NONE = -1;

    private static final int MOST_SETS = 3;
    private static final int MOST_HOURS = 8;
    private static final int USUAL_HOURS = 6;
    private static final int CELLS = MOST_SETS * MOST_HOURS;
    private static final int PLACES = 4;

    private static final int MOST_POWER = 60;
    private static final int MOST_ABOVE_LOW = 3;
    private static final int MOST_TIME = 3;
    private static final int MOST_COST = 10000;
    private static final int MOST_HOURS_BEFORE = 100;
    private static final int MOST_DEMAND = 200;
    private static final int MOST_OUTPUT = 63;
    private static final int MOST_PRICE = 100000;
    private static final int MOST_ROUNDS = 40;
    private static final int FIRST_STEP = 64;

    /** Off, or one of the four outputs from LOW on. */
    private static final int CHOICES = MOST_ABOVE_LOW + 2;
    /** No rule and no cost tells more hours on or off apart than this many. */
    private static final int HELD = 3;
    private static final int STATES = CHOICES * HELD;

    private static final int JOINT_CHOICES = CHOICES * CHOICES * CHOICES;
    private static final int JOINT_HELD = HELD * HELD * HELD;
    /** The choices of two sets leave the third one output at most that meets the demand. */
    private static final int MOST_FITTING = CHOICES * CHOICES;
    private static final int[] CHOICE_WEIGHTS = {25, 5, 1};

    /** Above each rule's number, so that the least broken rule is a plain minimum. */
    private static final int ALL_HOLD = 8;

    private final Station station;
    private final Planner planner = new Planner();
    private final Market market = new Market();
    private final int[] table = new int[CELLS];
    private final int[][] kept = new int[PLACES][CELLS];
    private final boolean[] filled = new boolean[PLACES];

    public CommitDesk(int hours) {
        station = new Station(within(hours, 1, MOST_HOURS) ? hours : USUAL_HOURS);
    }

    public int unit(int low, int high, int up, int down, int ramp)
            throws IllegalArgumentException, IllegalStateException {
        if (!powerCanBe(low, high) || !within(up, 1, MOST_TIME) || !within(down, 1, MOST_TIME)
                || !within(ramp, 1, MOST_TIME)) {
            throw new IllegalArgumentException();
        }
        if (station.sets >= MOST_SETS) {
            throw new IllegalStateException();
        }
        int number = station.sets;
        station.units[number].rate(low, high, up, down, ramp);
        station.sets = number + 1;
        market.startAfresh();
        return number;
    }

    public boolean costs(int set, int base, int first, int second, int third) {
        if (!station.hasSet(set) || !costCanBe(base) || !costCanBe(first) || !costCanBe(second)
                || !costCanBe(third)) {
            return false;
        }
        station.units[set].chargeHours(base, first, second, third);
        market.startAfresh();
        return true;
    }

    public boolean starts(int set, int one, int two, int three) {
        if (!station.hasSet(set) || !costCanBe(one) || !costCanBe(two) || !costCanBe(three)) {
            return false;
        }
        station.units[set].chargeStarts(one, two, three);
        market.startAfresh();
        return true;
    }

    public boolean before(int set, int output, int hours) {
        if (!station.hasSet(set) || !within(hours, 1, MOST_HOURS_BEFORE)) {
            return false;
        }
        Unit unit = station.units[set];
        if (output != 0 && !unit.canGive(output)) {
            return false;
        }
        unit.outputBefore = output;
        unit.hoursBefore = hours;
        market.startAfresh();
        return true;
    }

    public boolean demand(int hour, int demand, int reserve) {
        if (!station.hasHour(hour) || !within(demand, 0, MOST_DEMAND)
                || !within(reserve, 0, MOST_DEMAND)) {
            return false;
        }
        station.demands[hour] = demand;
        station.reserves[hour] = reserve;
        market.startAfresh();
        return true;
    }

    public int plan() {
        return planner.search(station, table, false);
    }

    public int redispatch() {
        return planner.search(station, table, true);
    }

    public int output(int set, int hour) throws IndexOutOfBoundsException {
        if (!station.hasCell(set, hour)) {
            throw new IndexOutOfBoundsException();
        }
        return table[cell(set, hour)];
    }

    public boolean set(int set, int hour, int output) {
        if (!station.hasCell(set, hour) || !within(output, 0, MOST_OUTPUT)) {
            return false;
        }
        table[cell(set, hour)] = output;
        return true;
    }

    public int verify() {
        return station.firstBreach(table);
    }

    public int cost(int what) throws IllegalArgumentException, IllegalStateException {
        if (!within(what, 0, 2)) {
            throw new IllegalArgumentException();
        }
        if (station.firstBreach(table) != 0) {
            throw new IllegalStateException();
        }
        int startsPart = what == 2 ? 0 : station.startsCharged(table);
        int hoursPart = what == 1 ? 0 : station.hoursCharged(table);
        return startsPart + hoursPart;
    }

    public boolean price(int hour, int price) {
        if (!station.hasHour(hour) || !within(price, -MOST_PRICE, MOST_PRICE)) {
            return false;
        }
        market.prices[hour] = price;
        market.startAfresh();
        return true;
    }

    public int priceOf(int hour) throws IndexOutOfBoundsException {
        if (!station.hasHour(hour)) {
            throw new IndexOutOfBoundsException();
        }
        return market.prices[hour];
    }

    public long alone(int set) throws IndexOutOfBoundsException {
        if (!station.hasSet(set)) {
            throw new IndexOutOfBoundsException();
        }
        market.settle(station);
        return market.loneCosts[set];
    }

    public int lone(int set, int hour) throws IndexOutOfBoundsException {
        if (!station.hasCell(set, hour)) {
            throw new IndexOutOfBoundsException();
        }
        market.settle(station);
        return market.loneOutputs[cell(set, hour)];
    }

    public long bound() {
        market.settle(station);
        return market.presentBound(station);
    }

    public long improve(int rounds) throws IllegalArgumentException {
        if (!within(rounds, 1, MOST_ROUNDS)) {
            throw new IllegalArgumentException();
        }
        market.settle(station);
        for (int round = 0; round < rounds; round++) {
            market.goRound(station);
        }
        return market.best;
    }

    public boolean keep(int place) {
        if (!within(place, 0, PLACES - 1)) {
            return false;
        }
        System.arraycopy(table, 0, kept[place], 0, CELLS);
        filled[place] = true;
        return true;
    }

    public boolean take(int place) {
        if (!within(place, 0, PLACES - 1) || !filled[place]) {
            return false;
        }
        System.arraycopy(kept[place], 0, table, 0, CELLS);
        return true;
    }

    public int count(int what) {
        switch (what) {
            case 0:
                return station.sets;
            case 1:
                return station.hours;
            case 2:
                return market.step;
            case 3:
                return filledPlaces();
            default:
                return ofHour(what);
        }
    }

    private int ofHour(int what) {
        if (what >= 20) {
            return station.hasHour(what - 20) ? station.reserves[what - 20] : NONE;
        }
        if (what >= 10) {
            return station.hasHour(what - 10) ? station.demands[what - 10] : NONE;
        }
        return NONE;
    }

    private int filledPlaces() {
        int places = 0;
        for (int place = 0; place < PLACES; place++) {
            places += filled[place] ? 1 : 0;
        }
        return places;
    }

    private static boolean within(int number, int least, int most) {
        return least <= number && number <= most;
    }

    private static boolean powerCanBe(int low, int high) {
        return within(low, 1, MOST_POWER) && within(high, low, low + MOST_ABOVE_LOW)
                && high <= MOST_POWER;
    }

    private static boolean costCanBe(int cost) {
        return within(cost, 0, MOST_COST);
    }

    private static int cell(int set, int hour) {
        return set * MOST_HOURS + hour;
    }

    /**
     * A set. Its choices for an hour are 0, off, and c, on at LOW + c - 1. Its states are a choice
     * and the hours that it has been off, or on, by now: HELD times the choice, and those hours
     * less 1. Until it is rated it has no output to give: it is off and costs nothing, so that
     * all that goes over the sets may go over three of them.
     */
    private static final class Unit {
        private int low = 1;
        private int high = 0;
        private int up = 1;
        private int down = 1;
        private int ramp = 1;
        private int outputBefore = 0;
        private int hoursBefore = HELD;
        private final int[] hourCosts = new int[CHOICES];
        private final int[] startCosts = new int[HELD];
        private final int[] nextStates = new int[STATES * CHOICES];

        Unit() {
            fillNextStates();
        }

        void rate(int newLow, int newHigh, int newUp, int newDown, int newRamp) {
            low = newLow;
            high = newHigh;
            up = newUp;
            down = newDown;
            ramp = newRamp;
            fillNextStates();
        }

        void chargeHours(int base, int first, int second, int third) {
            hourCosts[1] = base;
            hourCosts[2] = base + first;
            hourCosts[3] = base + first + second;
            hourCosts[4] = base + first + second + third;
        }

        void chargeStarts(int one, int two, int three) {
            startCosts[0] = one;
            startCosts[1] = two;
            startCosts[2] = three;
        }

        boolean canGive(int output) {
            return low <= output && output <= high;
        }

        boolean canChoose(int choice) {
            return choice == 0 || low + choice - 1 <= high;
        }

        int outputOf(int choice) {
            return choice == 0 ? 0 : low + choice - 1;
        }

        int choiceFor(int output) {
            return canGive(output) ? output - low + 1 : 0;
        }

        int stateBefore() {
            int choice = choiceFor(outputBefore);
            int most = choice == 0 ? HELD : up;
            return choice * HELD + Math.min(hoursBefore, most) - 1;
        }

        /** The state behind an hour of a choice, NONE if rules 1 and 4 to 7 forbid it. */
        int nextState(int state, int choice) {
            return nextStates[state * CHOICES + choice];
        }

        int costOfHour(int choice) {
            return hourCosts[choice];
        }

        int costOfStart(int hoursOff) {
            return startCosts[Math.max(1, Math.min(hoursOff, HELD)) - 1];
        }

        int costOfStep(int state, int choice) {
            boolean goesOn = state < HELD && choice != 0;
            return hourCosts[choice] + (goesOn ? startCosts[state] : 0);
        }

        private void fillNextStates() {
            for (int state = 0; state < STATES; state++) {
                for (int choice = 0; choice < CHOICES; choice++) {
                    nextStates[state * CHOICES + choice] = findNextState(state, choice);
                }
            }
        }

        private int findNextState(int state, int choice) {
            int was = state / HELD;
            int held = state % HELD + 1;
            if (!canChoose(choice)) {
                return NONE;
            }
            if (was == 0 && choice == 0) {
                return Math.min(held, HELD - 1);
            }
            if (choice == 0) {
                return held < up ? NONE : 0;
            }
            if (was == 0) {
                return held < down || choice - 1 > ramp ? NONE : choice * HELD;
            }
            if (Math.abs(choice - was) > ramp) {
                return NONE;
            }
            // More than UP hours on are never told apart: fewer states to go through.
            return choice * HELD + Math.min(held, up - 1);
        }
    }

    /** The sets and the hours, and how a table stands to them. */
    private static final class Station {
        private final int hours;
        private int sets = 0;
        private final Unit[] units = new Unit[MOST_SETS];
        private final int[] demands = new int[MOST_HOURS];
        private final int[] reserves = new int[MOST_HOURS];

        Station(int hours) {
            this.hours = hours;
            for (int set = 0; set < MOST_SETS; set++) {
                units[set] = new Unit();
            }
        }

        boolean hasSet(int set) {
            return within(set, 0, sets - 1);
        }

        boolean hasHour(int hour) {
            return within(hour, 0, hours - 1);
        }

        boolean hasCell(int set, int hour) {
            return hasSet(set) && hasHour(hour);
        }

        int firstBreach(int[] table) {
            for (int hour = 0; hour < hours; hour++) {
                int rule = leastBroken(table, hour);
                if (rule < ALL_HOLD) {
                    return 10 * hour + 10 + rule;
                }
            }
            return 0;
        }

        int startsCharged(int[] table) {
            int sum = 0;
            for (int set = 0; set < sets; set++) {
                for (int hour = 0; hour < hours; hour++) {
                    if (table[cell(set, hour)] != 0 && outputAhead(table, set, hour) == 0) {
                        sum += units[set].costOfStart(hoursHeld(table, set, hour));
                    }
                }
            }
            return sum;
        }

        int hoursCharged(int[] table) {
            int sum = 0;
            for (int set = 0; set < sets; set++) {
                for (int hour = 0; hour < hours; hour++) {
                    sum += units[set].costOfHour(units[set].choiceFor(table[cell(set, hour)]));
                }
            }
            return sum;
        }

        /** Bit by bit which sets are on in an hour. */
        int whoIsOn(int[] table, int hour) {
            int on = 0;
            for (int set = 0; set < MOST_SETS; set++) {
                on |= table[cell(set, hour)] == 0 ? 0 : 1 << set;
            }
            return on;
        }

        private int leastBroken(int[] table, int hour) {
            int least = brokenTogether(table, hour);
            for (int set = 0; set < sets; set++) {
                least = Math.min(least, brokenBy(table, set, hour));
            }
            return least;
        }

        private int brokenTogether(int[] table, int hour) {
            int together = 0;
            int most = 0;
            for (int set = 0; set < sets; set++) {
                int output = table[cell(set, hour)];
                together += output;
                most += output == 0 ? 0 : units[set].high;
            }
            if (together != demands[hour]) {
                return 2;
            }
            return most - demands[hour] < reserves[hour] ? 3 : ALL_HOLD;
        }

        private int brokenBy(int[] table, int set, int hour) {
            Unit unit = units[set];
            int output = table[cell(set, hour)];
            int ahead = outputAhead(table, set, hour);
            if (output != 0 && !unit.canGive(output)) {
                return 1;
            }
            if (output == 0) {
                return ahead != 0 && hoursHeld(table, set, hour) < unit.up ? 4 : ALL_HOLD;
            }
            if (ahead != 0) {
                return Math.abs(output - ahead) > unit.ramp ? 6 : ALL_HOLD;
            }
            if (hoursHeld(table, set, hour) < unit.down) {
                return 5;
            }
            return output > unit.low + unit.ramp ? 7 : ALL_HOLD;
        }

        private int outputAhead(int[] table, int set, int hour) {
            return hour == 0 ? units[set].outputBefore : table[cell(set, hour - 1)];
        }

        /** How many hours, just ahead of this one, a set was on, or off, without a break. */
        private int hoursHeld(int[] table, int set, int hour) {
            boolean on = outputAhead(table, set, hour) != 0;
            int held = 0;
            for (int earlier = hour - 1; earlier >= 0; earlier--) {
                if ((table[cell(set, earlier)] != 0) != on) {
                    return held;
                }
                held++;
            }
            boolean sameBefore = (units[set].outputBefore != 0) == on;
            return sameBefore ? held + units[set].hoursBefore : held;
        }
    }

    /**
     * The best way to each of some places: the one that costs least, of such the first one. A way
     * is one number, its choices as digits and the earliest ahead, so that the lesser number is
     * the way that comes first; three sets of five choices in eight hours stay below 2 to the 56.
     */
    private static final class Layer {
        private final long[] costs;
        private final long[] ways;

        Layer(int places) {
            costs = new long[places];
            ways = new long[places];
        }

        void clear() {
            Arrays.fill(ways, NONE);
        }

        boolean isReached(int place) {
            return ways[place] != NONE;
        }

        void offer(int place, long cost, long way) {
            if (ways[place] == NONE || cost < costs[place]
                    || cost == costs[place] && way < ways[place]) {
                costs[place] = cost;
                ways[place] = way;
            }
        }

        /** Place 0 has the best of all the other's ways; it is not reached if there is none. */
        void gather(Layer other) {
            clear();
            for (int place = 0; place < other.ways.length; place++) {
                if (other.isReached(place)) {
                    offer(0, other.costs[place], other.ways[place]);
                }
            }
        }
    }

    /**
     * The joint choices of all sets that fit an hour, and the best ways to them. A place is a
     * fitting choice's index times JOINT_HELD and the sets' held hours as digits.
     */
    private static final class Front {
        private final Layer layer = new Layer(MOST_FITTING * JOINT_HELD);
        private final int[] codes = new int[MOST_FITTING];
        private final int[] choices = new int[MOST_FITTING * MOST_SETS];
        private int size = 0;

        void standBefore(Station station) {
            layer.clear();
            size = 1;
            int held = 0;
            for (int set = 0; set < MOST_SETS; set++) {
                int state = station.units[set].stateBefore();
                choices[set] = state / HELD;
                held = held * HELD + state % HELD;
            }
            layer.offer(held, 0, 0);
        }

        /** who: bit by bit the sets that must be on, all others off; NONE leaves it free. */
        void openHour(Station station, int hour, int who) {
            layer.clear();
            size = 0;
            for (int code = 0; code < JOINT_CHOICES && size < MOST_FITTING; code++) {
                if (fits(station, hour, who, code)) {
                    addChoices(code);
                }
            }
        }

        private void addChoices(int code) {
            codes[size] = code;
            for (int set = 0; set < MOST_SETS; set++) {
                choices[size * MOST_SETS + set] = choiceIn(code, set);
            }
            size++;
        }

        private static boolean fits(Station station, int hour, int who, int code) {
            int together = 0;
            int most = 0;
            int on = 0;
            for (int set = 0; set < MOST_SETS; set++) {
                Unit unit = station.units[set];
                int choice = choiceIn(code, set);
                if (!unit.canChoose(choice)) {
                    return false;
                }
                together += unit.outputOf(choice);
                most += choice == 0 ? 0 : unit.high;
                on |= choice == 0 ? 0 : 1 << set;
            }
            return (who == NONE || who == on) && together == station.demands[hour]
                    && most - together >= station.reserves[hour];
        }

        private static int choiceIn(int code, int set) {
            return code / CHOICE_WEIGHTS[set] % CHOICES;
        }
    }

    /** The search for the first one of the plans that cost least, hour by hour over all states. */
    private static final class Planner {
        private Front from = new Front();
        private Front to = new Front();
        private final int[] states = new int[MOST_SETS];

        /** Writes the plan to the table and answers its cost; NONE, and the table stays. */
        int search(Station station, int[] table, boolean asOnInTable) {
            from.standBefore(station);
            for (int hour = 0; hour < station.hours; hour++) {
                to.openHour(station, hour, asOnInTable ? station.whoIsOn(table, hour) : NONE);
                goOneHour(station);
                Front passed = from;
                from = to;
                to = passed;
            }
            Layer end = to.layer;
            end.gather(from.layer);
            if (!end.isReached(0)) {
                return NONE;
            }
            write(station, end.ways[0], table);
            return (int) end.costs[0];
        }

        private void goOneHour(Station station) {
            for (int fitting = 0; fitting < from.size; fitting++) {
                for (int held = 0; held < JOINT_HELD; held++) {
                    int place = fitting * JOINT_HELD + held;
                    if (from.layer.isReached(place)) {
                        readStates(fitting, held);
                        goOnFrom(station, place);
                    }
                }
            }
        }

        private void readStates(int fitting, int held) {
            int rest = held;
            for (int set = MOST_SETS - 1; set >= 0; set--) {
                states[set] = from.choices[fitting * MOST_SETS + set] * HELD + rest % HELD;
                rest /= HELD;
            }
        }

        private void goOnFrom(Station station, int place) {
            long cost = from.layer.costs[place];
            long way = from.layer.ways[place] * JOINT_CHOICES;
            for (int fitting = 0; fitting < to.size; fitting++) {
                int held = heldBehind(station, fitting);
                if (held != NONE) {
                    long costNow = cost + costOfSteps(station, fitting);
                    to.layer.offer(fitting * JOINT_HELD + held, costNow, way + to.codes[fitting]);
                }
            }
        }

        private int heldBehind(Station station, int fitting) {
            int held = 0;
            for (int set = 0; set < MOST_SETS; set++) {
                int choice = to.choices[fitting * MOST_SETS + set];
                int state = station.units[set].nextState(states[set], choice);
                if (state == NONE) {
                    return NONE;
                }
                held = held * HELD + state % HELD;
            }
            return held;
        }

        private int costOfSteps(Station station, int fitting) {
            int sum = 0;
            for (int set = 0; set < MOST_SETS; set++) {
                int choice = to.choices[fitting * MOST_SETS + set];
                sum += station.units[set].costOfStep(states[set], choice);
            }
            return sum;
        }

        private void write(Station station, long way, int[] table) {
            long rest = way;
            for (int hour = station.hours - 1; hour >= 0; hour--) {
                int code = (int) (rest % JOINT_CHOICES);
                for (int set = 0; set < MOST_SETS; set++) {
                    table[cell(set, hour)] =
                            station.units[set].outputOf(Front.choiceIn(code, set));
                }
                rest /= JOINT_CHOICES;
            }
        }
    }

    /** The prices, the sets' plans alone by them, and improving. */
    private static final class Market {
        private final int[] prices = new int[MOST_HOURS];
        private final long[] loneCosts = new long[MOST_SETS];
        private final int[] loneOutputs = new int[CELLS];
        private Layer from = new Layer(STATES);
        private Layer to = new Layer(STATES);
        private int step = FIRST_STEP;
        private long best = 0;
        private boolean settled = false;

        /** Behind a change by a call; what follows from it is found when it is asked for. */
        void startAfresh() {
            step = FIRST_STEP;
            settled = false;
        }

        void settle(Station station) {
            if (!settled) {
                planAllAlone(station);
                best = presentBound(station);
                settled = true;
            }
        }

        long presentBound(Station station) {
            long sum = 0;
            for (int hour = 0; hour < station.hours; hour++) {
                sum += (long) station.demands[hour] * prices[hour];
            }
            for (int set = 0; set < station.sets; set++) {
                sum += loneCosts[set];
            }
            return sum;
        }

        void goRound(Station station) {
            for (int hour = 0; hour < station.hours; hour++) {
                int sign = Integer.compare(station.demands[hour], outputsTogether(station, hour));
                int moved = prices[hour] + sign * step;
                prices[hour] = Math.max(-MOST_PRICE, Math.min(moved, MOST_PRICE));
            }
            planAllAlone(station);
            long present = presentBound(station);
            if (present > best) {
                best = present;
            } else {
                step = Math.max(1, step / 2);
            }
        }

        private int outputsTogether(Station station, int hour) {
            int sum = 0;
            for (int set = 0; set < station.sets; set++) {
                sum += loneOutputs[cell(set, hour)];
            }
            return sum;
        }

        private void planAllAlone(Station station) {
            for (int set = 0; set < station.sets; set++) {
                planAlone(station.units[set], set, station.hours);
            }
        }

        private void planAlone(Unit unit, int set, int hours) {
            from.clear();
            from.offer(unit.stateBefore(), 0, 0);
            for (int hour = 0; hour < hours; hour++) {
                to.clear();
                goOneHour(unit, prices[hour]);
                Layer passed = from;
                from = to;
                to = passed;
            }
            // There is always a way: a set may stay as it was before.
            to.gather(from);
            loneCosts[set] = to.costs[0];
            writeLone(unit, set, hours, to.ways[0]);
        }

        private void goOneHour(Unit unit, int price) {
            for (int state = 0; state < STATES; state++) {
                if (from.isReached(state)) {
                    goOnFrom(unit, price, state);
                }
            }
        }

        private void goOnFrom(Unit unit, int price, int state) {
            for (int choice = 0; choice < CHOICES; choice++) {
                int next = unit.nextState(state, choice);
                if (next != NONE) {
                    long gain = (long) price * unit.outputOf(choice);
                    long cost = from.costs[state] + unit.costOfStep(state, choice) - gain;
                    to.offer(next, cost, from.ways[state] * CHOICES + choice);
                }
            }
        }

        private void writeLone(Unit unit, int set, int hours, long way) {
            long rest = way;
            for (int hour = hours - 1; hour >= 0; hour--) {
                loneOutputs[cell(set, hour)] = unit.outputOf((int) (rest % CHOICES));
                rest /= CHOICES;
            }
        }
    }
}
