import java.util.ArrayList;
import java.util.HashMap;
import java.util.List;
import java.util.Map;
import java.util.Random;

/**
 * Long runs of drawn calls on the program and on a plain model, written from the document's words
 * alone: rules looked up in a set's whole history, least costs by going through what is left.
 */
public final class ModelTest {
    private static final int RUNS = 1000;
    /** So many answers are looked at that, with one more drawn call, an object's 512 are kept to. */
    private static final int MOST_ANSWERS = 440;

    private static final long NO_WAY = Long.MAX_VALUE;
    private static final long ARGUMENT = Long.MIN_VALUE + 1;
    private static final long STATE = Long.MIN_VALUE + 2;
    private static final long INDEX = Long.MIN_VALUE + 3;

    private static int wrong = 0;
    private static int plansFound = 0;
    private static int plansNone = 0;
    private static int redispatchesFound = 0;
    private static int plansTried = 0;

    public static void main(String[] args) {
        for (int seed = 1; seed <= RUNS && wrong < 20; seed++) {
            new Run(seed).go();
        }
        System.out.println("plans " + plansFound + ", none " + plansNone + ", redispatched "
                + redispatchesFound + ", gone through whole " + plansTried);
        if (plansFound < 1000 || plansNone < 1000 || redispatchesFound < 1000 || plansTried < 200) {
            wrong++;
            System.out.println("the drawn runs are too poor to tell anything");
        }
        System.out.println(wrong == 0 ? "program and model agree" : wrong + " answers differ");
        if (wrong != 0) {
            System.exit(1);
        }
    }

    /** A set as it was told. */
    private static final class ModelSet {
        int low;
        int high;
        int up;
        int down;
        int ramp;
        int[] megawatts = new int[4];
        int[] starts = new int[3];
        int outputBefore = 0;
        int hoursBefore = 3;

        /** The hours before and then those of a row, up to and without an hour. */
        List<Integer> history(int[] row, int hour) {
            List<Integer> all = new ArrayList<>();
            for (int i = 0; i < hoursBefore; i++) {
                all.add(outputBefore);
            }
            for (int i = 0; i < hour; i++) {
                all.add(row[i]);
            }
            return all;
        }

        static int lastHours(List<Integer> history, boolean on) {
            int hours = 0;
            for (int i = history.size() - 1; i >= 0 && (history.get(i) != 0) == on; i--) {
                hours++;
            }
            return hours;
        }

        boolean holds(int rule, int[] row, int hour) {
            List<Integer> history = history(row, hour);
            int now = row[hour];
            int last = history.get(history.size() - 1);
            switch (rule) {
                case 1:
                    return now == 0 || low <= now && now <= high;
                case 4:
                    return !(last != 0 && now == 0) || lastHours(history, true) >= up;
                case 5:
                    return !(last == 0 && now != 0) || lastHours(history, false) >= down;
                case 6:
                    return !(last != 0 && now != 0) || Math.abs(now - last) <= ramp;
                case 7:
                    return !(last == 0 && now != 0) || now <= low + ramp;
                default:
                    return true;
            }
        }

        boolean allHold(int[] row, int hour) {
            return holds(1, row, hour) && holds(4, row, hour) && holds(5, row, hour)
                    && holds(6, row, hour) && holds(7, row, hour);
        }

        long startCost(int[] row, int hour) {
            List<Integer> history = history(row, hour);
            if (row[hour] == 0 || history.get(history.size() - 1) != 0) {
                return 0;
            }
            int off = lastHours(history, false);
            return off == 1 ? starts[0] : off == 2 ? starts[1] : starts[2];
        }

        long hourCost(int output) {
            long sum = 0;
            for (int i = 0; output != 0 && i <= output - low; i++) {
                sum += megawatts[i];
            }
            return sum;
        }

        int[] choices() {
            int[] all = new int[high - low + 2];
            for (int i = 1; i < all.length; i++) {
                all[i] = low + i - 1;
            }
            return all;
        }

        String stateAhead(int[] row, int hour) {
            List<Integer> history = history(row, hour);
            int last = history.get(history.size() - 1);
            return last + "/" + lastHours(history, last != 0) + " ";
        }
    }

    /** The desk in the plainest words. */
    private static final class Model {
        final int hours;
        final List<ModelSet> sets = new ArrayList<>();
        final int[] demands;
        final int[] reserves;
        final int[] prices;
        int[][] table;
        final int[][][] kept = new int[4][][];
        int step = 64;
        long best = 0;

        Model(int told) {
            hours = told >= 1 && told <= 8 ? told : 6;
            demands = new int[hours];
            reserves = new int[hours];
            prices = new int[hours];
            table = new int[3][hours];
        }

        boolean hasSet(int set) {
            return set >= 0 && set < sets.size();
        }

        boolean hasHour(int hour) {
            return hour >= 0 && hour < hours;
        }

        void afresh() {
            step = 64;
            best = bound();
        }

        boolean holds(int rule, int[][] rows, int hour) {
            if (rule == 2 || rule == 3) {
                int together = 0;
                int most = 0;
                for (int set = 0; set < sets.size(); set++) {
                    together += rows[set][hour];
                    most += rows[set][hour] != 0 ? sets.get(set).high : 0;
                }
                return rule == 2 ? together == demands[hour]
                        : most - demands[hour] >= reserves[hour];
            }
            for (int set = 0; set < sets.size(); set++) {
                if (!sets.get(set).holds(rule, rows[set], hour)) {
                    return false;
                }
            }
            return true;
        }

        int verify(int[][] rows) {
            for (int hour = 0; hour < hours; hour++) {
                for (int rule = 1; rule <= 7; rule++) {
                    if (!holds(rule, rows, hour)) {
                        return 10 * hour + 10 + rule;
                    }
                }
            }
            return 0;
        }

        long cost(int[][] rows, int what) {
            long sum = 0;
            for (int set = 0; set < sets.size(); set++) {
                for (int hour = 0; hour < hours; hour++) {
                    sum += what == 2 ? 0 : sets.get(set).startCost(rows[set], hour);
                    sum += what == 1 ? 0 : sets.get(set).hourCost(rows[set][hour]);
                }
            }
            return sum;
        }

        /** The joint outputs of an hour, the lesser of set 0, then of set 1, .. ahead. */
        List<int[]> jointChoices(int hour, boolean asOnInTable) {
            List<int[]> all = new ArrayList<>();
            all.add(new int[0]);
            for (int set = 0; set < sets.size(); set++) {
                List<int[]> longer = new ArrayList<>();
                for (int[] begun : all) {
                    for (int output : sets.get(set).choices()) {
                        if (!asOnInTable || (output != 0) == (table[set][hour] != 0)) {
                            int[] more = java.util.Arrays.copyOf(begun, set + 1);
                            more[set] = output;
                            longer.add(more);
                        }
                    }
                }
                all = longer;
            }
            return all;
        }

        boolean mayBe(int[][] rows, int hour, int[] choice) {
            put(rows, hour, choice);
            for (int rule = 1; rule <= 7; rule++) {
                if (!holds(rule, rows, hour)) {
                    return false;
                }
            }
            return true;
        }

        void put(int[][] rows, int hour, int[] choice) {
            for (int set = 0; set < choice.length; set++) {
                rows[set][hour] = choice[set];
            }
        }

        long costOfHour(int[][] rows, int hour) {
            long sum = 0;
            for (int set = 0; set < sets.size(); set++) {
                sum += sets.get(set).startCost(rows[set], hour);
                sum += sets.get(set).hourCost(rows[set][hour]);
            }
            return sum;
        }

        /** What hours from this one on cost at least, and the first choices that cost just that. */
        long costFrom(int hour, int[][] rows, List<List<int[]>> choices, Map<String, Long> known) {
            if (hour == hours) {
                return 0;
            }
            StringBuilder key = new StringBuilder().append(hour).append(": ");
            for (int set = 0; set < sets.size(); set++) {
                key.append(sets.get(set).stateAhead(rows[set], hour));
            }
            Long before = known.get(key.toString());
            if (before != null) {
                return before;
            }
            long least = NO_WAY;
            for (int[] choice : choices.get(hour)) {
                if (mayBe(rows, hour, choice)) {
                    long now = costOfHour(rows, hour);
                    long rest = costFrom(hour + 1, rows, choices, known);
                    least = rest == NO_WAY ? least : Math.min(least, now + rest);
                }
            }
            known.put(key.toString(), least);
            return least;
        }

        long plan(boolean asOnInTable) {
            List<List<int[]>> choices = new ArrayList<>();
            for (int hour = 0; hour < hours; hour++) {
                choices.add(jointChoices(hour, asOnInTable));
            }
            Map<String, Long> known = new HashMap<>();
            int[][] rows = new int[3][hours];
            long least = costFrom(0, rows, choices, known);
            if (least == NO_WAY) {
                return -1;
            }
            long left = least;
            for (int hour = 0; hour < hours; hour++) {
                left -= takeFirst(rows, hour, left, choices, known);
            }
            if (sets.size() * hours <= 6) {
                tryAll(rows, least, asOnInTable);
            }
            table = rows;
            return least;
        }

        long takeFirst(int[][] rows, int hour, long left, List<List<int[]>> choices,
                Map<String, Long> known) {
            for (int[] choice : choices.get(hour)) {
                if (mayBe(rows, hour, choice)) {
                    long now = costOfHour(rows, hour);
                    long rest = costFrom(hour + 1, rows, choices, known);
                    put(rows, hour, choice);
                    if (rest != NO_WAY && now + rest == left) {
                        return now;
                    }
                }
            }
            throw new AssertionError("the model lost its way");
        }

        /** Small tables: the model's own plan against each table that there is. */
        void tryAll(int[][] found, long least, boolean asOnInTable) {
            plansTried++;
            int[][] rows = new int[3][hours];
            int[][] first = tryFrom(0, rows, least, asOnInTable);
            if (!java.util.Arrays.deepEquals(first, found)) {
                throw new AssertionError("the model is wrong");
            }
        }

        int[][] tryFrom(int hour, int[][] rows, long least, boolean asOnInTable) {
            if (hour == hours) {
                if (verify(rows) != 0) {
                    return null;
                }
                long cost = cost(rows, 0);
                if (cost < least) {
                    throw new AssertionError("the model is too dear");
                }
                return cost > least ? null : copy(rows);
            }
            for (int[] choice : jointChoices(hour, asOnInTable)) {
                put(rows, hour, choice);
                int[][] found = tryFrom(hour + 1, rows, least, asOnInTable);
                if (found != null) {
                    return found;
                }
            }
            return null;
        }

        static int[][] copy(int[][] rows) {
            int[][] copy = new int[rows.length][];
            for (int i = 0; i < rows.length; i++) {
                copy[i] = rows[i].clone();
            }
            return copy;
        }

        long aloneFrom(ModelSet set, int hour, int[] row, Map<String, Long> known) {
            if (hour == hours) {
                return 0;
            }
            String key = hour + ": " + set.stateAhead(row, hour);
            Long before = known.get(key);
            if (before != null) {
                return before;
            }
            long least = NO_WAY;
            for (int output : set.choices()) {
                row[hour] = output;
                if (set.allHold(row, hour)) {
                    long now = aloneHour(set, row, hour);
                    long rest = aloneFrom(set, hour + 1, row, known);
                    least = rest == NO_WAY ? least : Math.min(least, now + rest);
                }
            }
            known.put(key, least);
            return least;
        }

        long aloneHour(ModelSet set, int[] row, int hour) {
            return set.startCost(row, hour) + set.hourCost(row[hour])
                    - (long) prices[hour] * row[hour];
        }

        long alone(int number) {
            return aloneFrom(sets.get(number), 0, new int[hours], new HashMap<>());
        }

        int[] lone(int number) {
            ModelSet set = sets.get(number);
            Map<String, Long> known = new HashMap<>();
            int[] row = new int[hours];
            long left = aloneFrom(set, 0, row, known);
            for (int hour = 0; hour < hours; hour++) {
                for (int output : set.choices()) {
                    row[hour] = output;
                    if (set.allHold(row, hour)) {
                        long now = aloneHour(set, row, hour);
                        long rest = aloneFrom(set, hour + 1, row, known);
                        if (rest != NO_WAY && now + rest == left) {
                            left -= now;
                            break;
                        }
                    }
                }
            }
            return row;
        }

        long bound() {
            long sum = 0;
            for (int hour = 0; hour < hours; hour++) {
                sum += (long) demands[hour] * prices[hour];
            }
            for (int set = 0; set < sets.size(); set++) {
                sum += alone(set);
            }
            return sum;
        }

        void round() {
            int[] together = new int[hours];
            for (int set = 0; set < sets.size(); set++) {
                int[] row = lone(set);
                for (int hour = 0; hour < hours; hour++) {
                    together[hour] += row[hour];
                }
            }
            for (int hour = 0; hour < hours; hour++) {
                if (together[hour] < demands[hour]) {
                    prices[hour] = Math.min(100000, prices[hour] + step);
                } else if (together[hour] > demands[hour]) {
                    prices[hour] = Math.max(-100000, prices[hour] - step);
                }
            }
            long bound = bound();
            if (bound > best) {
                best = bound;
            } else {
                step = step == 1 ? 1 : step / 2;
            }
        }

        int count(int what) {
            int places = 0;
            for (int[][] one : kept) {
                places += one != null ? 1 : 0;
            }
            switch (what) {
                case 0:
                    return sets.size();
                case 1:
                    return hours;
                case 2:
                    return step;
                case 3:
                    return places;
                default:
                    break;
            }
            if (what >= 10 && what < 10 + hours) {
                return demands[what - 10];
            }
            return what >= 20 && what < 20 + hours ? reserves[what - 20] : -1;
        }
    }

    /** One run of calls on a new desk. */
    private static final class Run {
        final Random random;
        final int seed;
        final CommitDesk desk;
        final Model model;
        final int dear;
        int calls = 0;
        int answers = 0;

        Run(int seed) {
            this.seed = seed;
            random = new Random(seed);
            int hours = random.nextInt(11) - 1;
            desk = new CommitDesk(hours);
            model = new Model(hours);
            // Small costs make ties, great ones tell plans apart.
            dear = new int[] {1, 3, 50, 10000}[random.nextInt(4)];
        }

        void same(String call, long got, long want) {
            answers++;
            if (got != want) {
                wrong++;
                System.out.println("seed " + seed + ", call " + calls + ": " + call
                        + " answered " + got + ", the model " + want);
            }
        }

        void go() {
            int near = 1 + random.nextInt(40);
            int units = random.nextInt(4);
            for (int i = 0; i < units; i++) {
                callUnit(near + random.nextInt(3));
                callCosts();
                callStarts();
                callBefore();
            }
            demandAsWalked();
            for (calls = 0; answers < MOST_ANSWERS && wrong < 20; calls++) {
                oneCall(near);
            }
            sameTables();
        }

        int pick(int... of) {
            return of[random.nextInt(of.length)];
        }

        int someSet() {
            return random.nextInt(12) == 0 ? pick(-1, 3, model.sets.size())
                    : random.nextInt(Math.max(1, model.sets.size()));
        }

        int someHour() {
            return random.nextInt(20) == 0 ? pick(-1, 8, 9, model.hours)
                    : random.nextInt(model.hours);
        }

        int someCost() {
            return random.nextInt(60) == 0 ? pick(-1, 10001, 10000) : random.nextInt(dear + 1);
        }

        void oneCall(int near) {
            switch (random.nextInt(23)) {
                case 0:
                    if (random.nextInt(20) == 0) {
                        callUnit(near);
                    }
                    break;
                case 1:
                    callCosts();
                    break;
                case 2:
                    callStarts();
                    break;
                case 3:
                    callBefore();
                    break;
                case 4:
                    callDemand();
                    break;
                case 5:
                    demandAsWalked();
                    break;
                case 6:
                case 7:
                case 8:
                    callPlan();
                    break;
                case 9:
                case 10:
                    callRedispatch();
                    break;
                case 11:
                    callOutput();
                    break;
                case 12:
                case 13:
                    callSet();
                    break;
                case 14:
                    same("verify", desk.verify(), model.verify(model.table));
                    break;
                case 15:
                    callCost();
                    break;
                case 16:
                    callPrice();
                    break;
                case 17:
                    callAlone();
                    break;
                case 18:
                    callLone();
                    break;
                case 19:
                    same("bound", desk.bound(), model.bound());
                    break;
                case 20:
                    callImprove();
                    break;
                case 21:
                    callPlaces();
                    break;
                default:
                    int what = random.nextInt(40) - 3;
                    same("count(" + what + ")", desk.count(what), model.count(what));
                    break;
            }
        }

        void callUnit(int near) {
            int low = random.nextInt(15) == 0 ? pick(0, 60, 61, 58) : Math.min(60, near);
            int high = random.nextInt(15) == 0 ? low + pick(-1, 4) : low + random.nextInt(4);
            int up = random.nextInt(30) == 0 ? pick(0, 4) : 1 + random.nextInt(3);
            int down = random.nextInt(30) == 0 ? pick(0, 4) : 1 + random.nextInt(3);
            int ramp = random.nextInt(30) == 0 ? pick(0, 4) : 1 + random.nextInt(3);
            long got;
            try {
                got = desk.unit(low, high, up, down, ramp);
            } catch (IllegalArgumentException e) {
                got = ARGUMENT;
            } catch (IllegalStateException e) {
                got = STATE;
            }
            long want;
            if (low < 1 || low > 60 || high < low || high > low + 3 || high > 60 || up < 1 || up > 3
                    || down < 1 || down > 3 || ramp < 1 || ramp > 3) {
                want = ARGUMENT;
            } else if (model.sets.size() == 3) {
                want = STATE;
            } else {
                ModelSet set = new ModelSet();
                set.low = low;
                set.high = high;
                set.up = up;
                set.down = down;
                set.ramp = ramp;
                want = model.sets.size();
                model.sets.add(set);
                model.afresh();
            }
            same("unit", got, want);
        }

        boolean costsCanBe(int... costs) {
            for (int cost : costs) {
                if (cost < 0 || cost > 10000) {
                    return false;
                }
            }
            return true;
        }

        void callCosts() {
            int set = someSet();
            int[] told = {someCost(), someCost(), someCost(), someCost()};
            boolean want = model.hasSet(set) && costsCanBe(told);
            if (want) {
                model.sets.get(set).megawatts = told;
                model.afresh();
            }
            boolean got = desk.costs(set, told[0], told[1], told[2], told[3]);
            same("costs", got ? 1 : 0, want ? 1 : 0);
        }

        void callStarts() {
            int set = someSet();
            int[] told = {someCost(), someCost(), someCost()};
            boolean want = model.hasSet(set) && costsCanBe(told);
            if (want) {
                model.sets.get(set).starts = told;
                model.afresh();
            }
            same("starts", desk.starts(set, told[0], told[1], told[2]) ? 1 : 0, want ? 1 : 0);
        }

        void callBefore() {
            int set = someSet();
            int low = model.hasSet(set) ? model.sets.get(set).low : 1;
            int output = random.nextBoolean() ? 0 : low - 1 + random.nextInt(6);
            int hours = random.nextInt(10) == 0 ? pick(0, 101, 100, 50) : 1 + random.nextInt(4);
            boolean want = model.hasSet(set) && hours >= 1 && hours <= 100 && (output == 0
                    || output >= low && output <= model.sets.get(set).high);
            if (want) {
                model.sets.get(set).outputBefore = output;
                model.sets.get(set).hoursBefore = hours;
                model.afresh();
            }
            same("before", desk.before(set, output, hours) ? 1 : 0, want ? 1 : 0);
        }

        void callDemand() {
            int hour = someHour();
            int demand = random.nextInt(8) == 0 ? pick(-1, 201, 200, 0) : random.nextInt(60);
            int reserve = random.nextInt(8) == 0 ? pick(-1, 201, 200, 3) : 0;
            tellDemand(hour, demand, reserve);
        }

        void tellDemand(int hour, int demand, int reserve) {
            boolean want = model.hasHour(hour) && demand >= 0 && demand <= 200 && reserve >= 0
                    && reserve <= 200;
            if (want) {
                model.demands[hour] = demand;
                model.reserves[hour] = reserve;
                model.afresh();
            }
            same("demand", desk.demand(hour, demand, reserve) ? 1 : 0, want ? 1 : 0);
        }

        /** Demands that some plan meets: each set walks by its own rules. */
        void demandAsWalked() {
            int[] sum = new int[model.hours];
            for (ModelSet set : model.sets) {
                int[] row = new int[model.hours];
                for (int hour = 0; hour < model.hours; hour++) {
                    List<Integer> may = new ArrayList<>();
                    for (int output : set.choices()) {
                        row[hour] = output;
                        if (set.allHold(row, hour)) {
                            may.add(output);
                        }
                    }
                    row[hour] = may.get(random.nextInt(may.size()));
                    sum[hour] += row[hour];
                }
            }
            for (int hour = 0; hour < model.hours; hour++) {
                tellDemand(hour, sum[hour], random.nextInt(6) == 0 ? random.nextInt(3) : 0);
            }
        }

        void sameTables() {
            for (int set = 0; set < model.sets.size(); set++) {
                for (int hour = 0; hour < model.hours; hour++) {
                    same("output(" + set + ", " + hour + ")", desk.output(set, hour),
                            model.table[set][hour]);
                }
            }
        }

        void callPlan() {
            long want = model.plan(false);
            plansFound += want >= 0 ? 1 : 0;
            plansNone += want >= 0 ? 0 : 1;
            same("plan", desk.plan(), want);
            sameTables();
            if (want >= 0) {
                same("verify", desk.verify(), 0);
                same("cost", desk.cost(0), want);
                same("bound is no more", desk.bound() <= want ? 1 : 0, 1);
            }
        }

        void callRedispatch() {
            long want = model.plan(true);
            redispatchesFound += want >= 0 ? 1 : 0;
            same("redispatch", desk.redispatch(), want);
            sameTables();
        }

        void callOutput() {
            int set = someSet();
            int hour = someHour();
            long got;
            try {
                got = desk.output(set, hour);
            } catch (IndexOutOfBoundsException e) {
                got = INDEX;
            }
            boolean there = model.hasSet(set) && model.hasHour(hour);
            same("output", got, there ? model.table[set][hour] : INDEX);
        }

        void callSet() {
            int set = someSet();
            int hour = someHour();
            int low = model.hasSet(set) ? model.sets.get(set).low : 1;
            int output = random.nextInt(10) == 0 ? pick(-1, 64, 63, 1)
                    : random.nextInt(4) == 0 ? 0 : low + random.nextInt(4);
            boolean want = model.hasSet(set) && model.hasHour(hour) && output >= 0 && output <= 63;
            if (want) {
                model.table[set][hour] = output;
            }
            same("set", desk.set(set, hour, output) ? 1 : 0, want ? 1 : 0);
        }

        void callCost() {
            int what = random.nextInt(5) - 1;
            long got;
            try {
                got = desk.cost(what);
            } catch (IllegalArgumentException e) {
                got = ARGUMENT;
            } catch (IllegalStateException e) {
                got = STATE;
            }
            long want = what < 0 || what > 2 ? ARGUMENT
                    : model.verify(model.table) != 0 ? STATE : model.cost(model.table, what);
            same("cost(" + what + ")", got, want);
        }

        void callPrice() {
            int hour = someHour();
            int price = random.nextInt(10) == 0 ? pick(-100001, 100001, -100000, 100000, 99990)
                    : random.nextInt(4 * dear + 4) / 2 - dear / 4;
            boolean want = model.hasHour(hour) && Math.abs(price) <= 100000;
            if (want) {
                model.prices[hour] = price;
                model.afresh();
            }
            same("price", desk.price(hour, price) ? 1 : 0, want ? 1 : 0);
        }

        void callAlone() {
            int set = someSet();
            long got;
            try {
                got = desk.alone(set);
            } catch (IndexOutOfBoundsException e) {
                got = INDEX;
            }
            same("alone", got, model.hasSet(set) ? model.alone(set) : INDEX);
        }

        void callLone() {
            int set = someSet();
            int hour = someHour();
            long got;
            try {
                got = desk.lone(set, hour);
            } catch (IndexOutOfBoundsException e) {
                got = INDEX;
            }
            boolean there = model.hasSet(set) && model.hasHour(hour);
            same("lone", got, there ? model.lone(set)[hour] : INDEX);
        }

        void callImprove() {
            int rounds = random.nextInt(4) == 0 ? pick(0, -1, 41, 40) : 1 + random.nextInt(5);
            long got;
            try {
                got = desk.improve(rounds);
            } catch (IllegalArgumentException e) {
                got = ARGUMENT;
            }
            long want = ARGUMENT;
            if (rounds >= 1 && rounds <= 40) {
                for (int i = 0; i < rounds; i++) {
                    model.round();
                }
                want = model.best;
            }
            same("improve(" + rounds + ")", got, want);
            same("count(2)", desk.count(2), model.step);
            for (int hour = 0; hour < model.hours; hour++) {
                same("priceOf", desk.priceOf(hour), model.prices[hour]);
            }
        }

        void callPlaces() {
            int place = random.nextInt(6) - 1;
            boolean there = place >= 0 && place < 4;
            if (random.nextBoolean()) {
                if (there) {
                    model.kept[place] = Model.copy(model.table);
                }
                same("keep", desk.keep(place) ? 1 : 0, there ? 1 : 0);
                return;
            }
            boolean want = there && model.kept[place] != null;
            if (want) {
                model.table = Model.copy(model.kept[place]);
            }
            same("take", desk.take(place) ? 1 : 0, want ? 1 : 0);
            sameTables();
        }
    }
}
