/** Promise by promise: ordinary inputs, the edges that the document names, wrong inputs. */
public final class PromisesTest {
    private static final int NO_THROW = 0;
    private static final int ARGUMENT = 1;
    private static final int STATE = 2;
    private static final int INDEX = 3;

    private static int wrong = 0;
    private static String part = "";

    /** A call whose exception is looked at. */
    private interface Call {
        long go();
    }

    public static void main(String[] args) {
        newObject();
        unit();
        unitIsFresh();
        costs();
        starts();
        before();
        demand();
        planByCost();
        planOfTies();
        planByRules();
        planAnswersNone();
        redispatch();
        outputAndSet();
        verifyRules();
        verifyOrder();
        cost();
        price();
        aloneAndLone();
        aloneTies();
        bound();
        improve();
        improveAtTheEdges();
        whatStartsImprovingAfresh();
        whatLeavesImproving();
        keepAndTake();
        count();
        refusedChangesNothing();
        System.out.println(wrong == 0 ? "all promises hold" : wrong + " answers are not as due");
        if (wrong != 0) {
            System.exit(1);
        }
    }

    private static void begin(String name) {
        part = name;
    }

    private static void due(String call, long got, long want) {
        if (got != want) {
            wrong++;
            System.out.println(part + ": " + call + " answered " + got + ", due is " + want);
        }
    }

    private static void yes(String call, boolean got) {
        due(call, got ? 1 : 0, 1);
    }

    private static void no(String call, boolean got) {
        due(call, got ? 1 : 0, 0);
    }

    private static void throwing(String call, int want, Call it) {
        int got = NO_THROW;
        try {
            it.go();
        } catch (IllegalArgumentException e) {
            got = ARGUMENT;
        } catch (IllegalStateException e) {
            got = STATE;
        } catch (IndexOutOfBoundsException e) {
            got = INDEX;
        }
        due(call + " throws", got, want);
    }

    private static void row(CommitDesk desk, int set, int... outputs) {
        for (int hour = 0; hour < outputs.length; hour++) {
            due("output(" + set + ", " + hour + ")", desk.output(set, hour), outputs[hour]);
        }
    }

    private static void loneRow(CommitDesk desk, int set, int... outputs) {
        for (int hour = 0; hour < outputs.length; hour++) {
            due("lone(" + set + ", " + hour + ")", desk.lone(set, hour), outputs[hour]);
        }
    }

    private static void tell(CommitDesk desk, int set, int... outputs) {
        for (int hour = 0; hour < outputs.length; hour++) {
            yes("set", desk.set(set, hour, outputs[hour]));
        }
    }

    private static void demands(CommitDesk desk, int... demands) {
        for (int hour = 0; hour < demands.length; hour++) {
            yes("demand", desk.demand(hour, demands[hour], 0));
        }
    }

    private static CommitDesk desk(int hours, int... unit) {
        CommitDesk desk = new CommitDesk(hours);
        for (int at = 0; at + 4 < unit.length; at += 5) {
            desk.unit(unit[at], unit[at + 1], unit[at + 2], unit[at + 3], unit[at + 4]);
        }
        return desk;
    }

    private static void newObject() {
        begin("1 new");
        int[] told = {1, 2, 7, 8, 0, 9, -1, Integer.MIN_VALUE, Integer.MAX_VALUE};
        int[] hours = {1, 2, 7, 8, 6, 6, 6, 6, 6};
        for (int i = 0; i < told.length; i++) {
            CommitDesk desk = new CommitDesk(told[i]);
            due("count(1) of " + told[i], desk.count(1), hours[i]);
            due("count(0)", desk.count(0), 0);
            due("count(2)", desk.count(2), 64);
            due("count(3)", desk.count(3), 0);
            for (int hour = 0; hour < hours[i]; hour++) {
                due("priceOf", desk.priceOf(hour), 0);
                due("demand", desk.count(10 + hour), 0);
                due("reserve", desk.count(20 + hour), 0);
            }
            due("count behind the hours", desk.count(10 + hours[i]), -1);
            for (int set = 0; set < 3; set++) {
                due("unit", desk.unit(1, 1, 1, 1, 1), set);
                row(desk, set, new int[hours[i]]);
            }
            due("verify", desk.verify(), 0);
        }
    }

    private static void unit() {
        begin("2 unit");
        int[][] bad = {{0, 1, 1, 1, 1}, {-1, 1, 1, 1, 1}, {61, 61, 1, 1, 1}, {5, 4, 1, 1, 1},
            {5, 9, 1, 1, 1}, {58, 61, 1, 1, 1}, {60, 61, 1, 1, 1}, {5, 6, 0, 1, 1},
            {5, 6, 4, 1, 1}, {5, 6, 1, 0, 1}, {5, 6, 1, 4, 1}, {5, 6, 1, 1, 0}, {5, 6, 1, 1, 4},
            {Integer.MAX_VALUE, Integer.MAX_VALUE, 1, 1, 1},
            {Integer.MAX_VALUE, Integer.MIN_VALUE, 1, 1, 1}, {5, Integer.MIN_VALUE, 1, 1, 1},
            {5, Integer.MAX_VALUE, 1, 1, 1}};
        CommitDesk desk = new CommitDesk(3);
        for (int[] b : bad) {
            throwing("unit", ARGUMENT, () -> desk.unit(b[0], b[1], b[2], b[3], b[4]));
        }
        due("count(0)", desk.count(0), 0);
        due("unit", desk.unit(1, 4, 3, 3, 3), 0);
        due("unit", desk.unit(57, 60, 1, 1, 1), 1);
        due("count(0)", desk.count(0), 2);
        due("unit", desk.unit(60, 60, 2, 2, 2), 2);
        throwing("a fourth", STATE, () -> desk.unit(1, 1, 1, 1, 1));
        for (int[] b : bad) {
            throwing("a bad fourth", ARGUMENT, () -> desk.unit(b[0], b[1], b[2], b[3], b[4]));
        }
        due("count(0)", desk.count(0), 3);
    }

    private static void unitIsFresh() {
        begin("2 unit at first");
        CommitDesk desk = desk(2, 5, 8, 1, 3, 3);
        demands(desk, 7, 8);
        due("plan costs nothing and may start at once", desk.plan(), 0);
        row(desk, 0, 7, 8);
        desk.unit(5, 8, 1, 3, 3);
        row(desk, 1, 0, 0);
        desk.starts(1, 1, 2, 4);
        desk.set(0, 0, 0);
        desk.set(0, 1, 0);
        tell(desk, 1, 7, 8);
        due("start behind three hours", desk.cost(1), 4);
    }

    private static void costs() {
        begin("3 costs");
        CommitDesk desk = desk(4, 5, 8, 1, 1, 3);
        no("no such set", desk.costs(1, 0, 0, 0, 0));
        no("no such set", desk.costs(-1, 0, 0, 0, 0));
        no("no such set", desk.costs(3, 0, 0, 0, 0));
        no("base", desk.costs(0, 10001, 0, 0, 0));
        no("base", desk.costs(0, -1, 0, 0, 0));
        no("first", desk.costs(0, 0, 10001, 0, 0));
        no("first", desk.costs(0, 0, -1, 0, 0));
        no("second", desk.costs(0, 0, 0, 10001, 0));
        no("second", desk.costs(0, 0, 0, -1, 0));
        no("third", desk.costs(0, 0, 0, 0, 10001));
        no("third", desk.costs(0, 0, 0, 0, Integer.MIN_VALUE));
        demands(desk, 5, 6, 7, 8);
        due("plan", desk.plan(), 0);
        yes("costs", desk.costs(0, 1000, 200, 30, 4));
        due("plan", desk.plan(), 1000 + 1200 + 1230 + 1234);
        yes("costs", desk.costs(0, 10000, 10000, 10000, 10000));
        due("plan", desk.plan(), 100000);
        yes("costs", desk.costs(0, 0, 0, 0, 0));
        due("plan", desk.plan(), 0);
        CommitDesk narrow = desk(1, 5, 5, 1, 1, 1);
        yes("costs above HIGH may be told", narrow.costs(0, 1, 2, 3, 4));
        no("but not what can't be", narrow.costs(0, 1, 2, 3, 10001));
    }

    private static void starts() {
        begin("4 starts");
        CommitDesk desk = desk(4, 5, 8, 1, 1, 3);
        no("no such set", desk.starts(1, 0, 0, 0));
        no("no such set", desk.starts(-1, 0, 0, 0));
        no("one", desk.starts(0, 10001, 0, 0));
        no("one", desk.starts(0, -1, 0, 0));
        no("two", desk.starts(0, 0, 10001, 0));
        no("two", desk.starts(0, 0, -1, 0));
        no("three", desk.starts(0, 0, 0, 10001));
        no("three", desk.starts(0, 0, 0, -1));
        yes("starts", desk.starts(0, 10000, 0, 10000));
        yes("starts", desk.starts(0, 1, 20, 300));
        int[] paid = {1, 20, 300, 300, 300};
        int[] off = {1, 2, 3, 4, 100};
        demands(desk, 5, 5, 5, 5);
        for (int i = 0; i < off.length; i++) {
            yes("before", desk.before(0, 0, off[i]));
            due("plan behind " + off[i], desk.plan(), paid[i]);
        }
        demands(desk, 0, 5, 0, 5);
        yes("before", desk.before(0, 0, 1));
        due("two before and one between", desk.plan(), 21);
        demands(desk, 0, 0, 5, 5);
        due("three with the one before", desk.plan(), 300);
        yes("before", desk.before(0, 5, 1));
        due("just the two", desk.plan(), 20);
        demands(desk, 5, 5, 5, 5);
        due("no start", desk.plan(), 0);
        demands(desk, 0, 0, 0, 5);
        due("three", desk.plan(), 300);
    }

    private static void before() {
        begin("5 before");
        CommitDesk desk = desk(3, 5, 7, 3, 3, 1);
        no("no such set", desk.before(1, 0, 1));
        no("no such set", desk.before(-1, 0, 1));
        no("output", desk.before(0, 4, 1));
        no("output", desk.before(0, 8, 1));
        no("output", desk.before(0, -5, 1));
        no("output", desk.before(0, 1, 1));
        no("hours", desk.before(0, 0, 0));
        no("hours", desk.before(0, 0, 101));
        no("hours", desk.before(0, 5, 0));
        no("hours", desk.before(0, 5, 101));
        no("hours", desk.before(0, 5, Integer.MIN_VALUE));
        yes("on", desk.before(0, 5, 100));
        yes("on", desk.before(0, 7, 1));
        yes("off", desk.before(0, 0, 100));
        for (int off = 1; off <= 3; off++) {
            yes("off", desk.before(0, 0, off));
            tell(desk, 0, 5, 5, 5);
            demands(desk, 5, 5, 5);
            due("on behind " + off + " off", desk.verify(), off < 3 ? 15 : 0);
            due("plan", desk.plan(), off < 3 ? -1 : 0);
        }
        for (int on = 1; on <= 3; on++) {
            yes("on", desk.before(0, 6, on));
            tell(desk, 0, 0, 0, 0);
            demands(desk, 0, 0, 0);
            due("off behind " + on + " on", desk.verify(), on < 3 ? 14 : 0);
            due("plan", desk.plan(), on < 3 ? -1 : 0);
        }
        yes("at 7", desk.before(0, 7, 3));
        demands(desk, 5, 5, 5);
        tell(desk, 0, 5, 5, 5);
        due("ramp from before", desk.verify(), 16);
        due("plan", desk.plan(), -1);
        yes("at 6", desk.before(0, 6, 3));
        due("ramp from before", desk.verify(), 0);
        due("plan", desk.plan(), 0);
    }

    private static void demand() {
        begin("6 demand");
        CommitDesk desk = desk(2, 5, 8, 1, 1, 3);
        no("hour", desk.demand(2, 0, 0));
        no("hour", desk.demand(-1, 0, 0));
        no("demand", desk.demand(0, 201, 0));
        no("demand", desk.demand(0, -1, 0));
        no("reserve", desk.demand(0, 0, 201));
        no("reserve", desk.demand(0, 0, -1));
        yes("both ends", desk.demand(0, 200, 0));
        yes("both ends", desk.demand(1, 0, 200));
        due("count(10)", desk.count(10), 200);
        due("count(20)", desk.count(20), 0);
        due("count(11)", desk.count(11), 0);
        due("count(21)", desk.count(21), 200);
        yes("demand", desk.demand(0, 6, 2));
        yes("demand", desk.demand(1, 0, 0));
        due("reserve just there", desk.plan(), 0);
        yes("demand", desk.demand(0, 6, 3));
        due("reserve not there", desk.plan(), -1);
        yes("demand", desk.demand(0, 0, 1));
        due("a set that is off is no reserve", desk.plan(), -1);
        due("rule 3", desk.verify(), 12);
        desk.set(0, 0, 0);
        due("rule 3", desk.verify(), 13);
    }

    private static void planByCost() {
        begin("7 plan, by cost");
        CommitDesk desk = desk(3, 5, 8, 1, 1, 3, 5, 8, 1, 1, 3);
        desk.costs(0, 10, 5, 5, 5);
        desk.costs(1, 10, 4, 9, 1);
        demands(desk, 13, 14, 16);
        due("plan", desk.plan(), 34 + 39 + 49);
        row(desk, 0, 5, 6, 8);
        row(desk, 1, 8, 8, 8);
        due("cost", desk.cost(0), 122);
        desk.costs(1, 10, 4, 8, 9);
        due("plan", desk.plan(), 34 + 39 + 56);
        row(desk, 0, 7, 8, 8);
        row(desk, 1, 6, 6, 8);
        desk.starts(0, 0, 0, 3);
        desk.starts(1, 10000, 0, 0);
        demands(desk, 8, 0, 8);
        desk.costs(0, 10, 100, 100, 100);
        due("a start behind one hour off is too dear", desk.plan(), 31 + 310 + 3);
        row(desk, 0, 0, 0, 8);
        row(desk, 1, 8, 0, 0);
        desk.set(0, 0, 63);
        desk.set(1, 1, 5);
        due("whatever the table was", desk.plan(), 344);
        row(desk, 0, 0, 0, 8);
        row(desk, 1, 8, 0, 0);
    }

    private static void planOfTies() {
        begin("7 plan, the first one");
        CommitDesk desk = desk(2, 5, 8, 1, 1, 3, 5, 8, 1, 1, 3, 5, 8, 1, 1, 3);
        demands(desk, 6, 18);
        due("plan", desk.plan(), 0);
        row(desk, 0, 0, 5);
        row(desk, 1, 0, 5);
        row(desk, 2, 6, 8);
        desk.costs(1, 0, 0, 0, 1);
        desk.costs(0, 0, 0, 1, 0);
        demands(desk, 21, 16);
        due("plan", desk.plan(), 0);
        row(desk, 0, 6, 5);
        row(desk, 1, 7, 5);
        row(desk, 2, 8, 6);
        CommitDesk hoursFirst = desk(2, 5, 6, 1, 1, 1, 5, 6, 1, 1, 1);
        demands(hoursFirst, 11, 11);
        due("plan", hoursFirst.plan(), 0);
        row(hoursFirst, 0, 5, 5);
        row(hoursFirst, 1, 6, 6);
    }

    private static void planByRules() {
        begin("7 plan, by rules");
        CommitDesk up = desk(4, 5, 5, 3, 1, 1, 5, 5, 1, 1, 1);
        up.costs(1, 100, 0, 0, 0);
        demands(up, 0, 5, 5, 0);
        due("UP keeps the cheap one off", up.plan(), 200);
        demands(up, 0, 5, 5, 5);
        due("UP is met", up.plan(), 0);
        CommitDesk down = desk(4, 5, 5, 1, 2, 1, 5, 5, 1, 1, 1);
        down.costs(1, 100, 0, 0, 0);
        down.before(0, 5, 1);
        demands(down, 5, 0, 5, 5);
        due("DOWN", down.plan(), 100);
        row(down, 0, 0, 0, 5, 5);
        CommitDesk ramp = desk(3, 5, 8, 1, 1, 1, 1, 4, 1, 1, 3);
        ramp.costs(1, 0, 7, 7, 7);
        demands(ramp, 9, 9, 10);
        due("RAMP", ramp.plan(), 14 + 7 + 7);
        row(ramp, 0, 6, 7, 8);
        CommitDesk long8 = desk(8, 5, 5, 3, 3, 1);
        demands(long8, 5, 5, 5, 0, 0, 0, 5, 0);
        due("UP does not hold at the end", long8.plan(), -1);
        demands(long8, 5, 5, 5, 0, 0, 0, 5, 5);
        due("the end cuts UP short", long8.plan(), 0);
    }

    private static void planAnswersNone() {
        begin("7 plan, none");
        CommitDesk desk = desk(2, 5, 6, 1, 1, 1);
        tell(desk, 0, 63, 9);
        demands(desk, 4, 5);
        due("plan", desk.plan(), CommitDesk.NONE);
        row(desk, 0, 63, 9);
        demands(desk, 7, 5);
        due("plan", desk.plan(), CommitDesk.NONE);
        demands(desk, 5, 200);
        due("plan", desk.plan(), CommitDesk.NONE);
        row(desk, 0, 63, 9);
        CommitDesk empty = new CommitDesk(8);
        due("without sets", empty.plan(), 0);
        empty.demand(7, 0, 1);
        due("without sets a reserve is not met", empty.plan(), -1);
        empty.demand(7, 1, 0);
        due("without sets a demand is not met", empty.plan(), -1);
    }

    private static void redispatch() {
        begin("8 redispatch");
        CommitDesk desk = desk(2, 5, 8, 1, 1, 3, 5, 8, 1, 1, 3);
        desk.costs(0, 50, 1, 1, 1);
        desk.costs(1, 10, 9, 9, 9);
        demands(desk, 7, 13);
        due("plan", desk.plan(), 28 + 63);
        tell(desk, 0, 63, 1);
        tell(desk, 1, 0, 2);
        due("redispatch", desk.redispatch(), 52 + 63);
        row(desk, 0, 7, 8);
        row(desk, 1, 0, 5);
        tell(desk, 1, 9, 5);
        due("both on give too much", desk.redispatch(), -1);
        row(desk, 0, 7, 8);
        row(desk, 1, 9, 5);
        tell(desk, 0, 0, 0);
        due("one gives too little", desk.redispatch(), -1);
        row(desk, 0, 0, 0);
        row(desk, 1, 9, 5);
        desk.costs(0, 0, 0, 0, 0);
        desk.costs(1, 0, 0, 0, 0);
        demands(desk, 13, 13);
        tell(desk, 0, 8, 8);
        tell(desk, 1, 5, 5);
        due("ties", desk.redispatch(), 0);
        row(desk, 0, 5, 5);
        row(desk, 1, 8, 8);
        CommitDesk rules = desk(3, 5, 5, 2, 2, 1);
        demands(rules, 5, 0, 5);
        tell(rules, 0, 5, 0, 5);
        due("rules 4 and 5 hold, too", rules.redispatch(), -1);
        due("without sets", new CommitDesk(4).redispatch(), 0);
    }

    private static void outputAndSet() {
        begin("9, 10 output, set");
        CommitDesk desk = desk(3, 5, 8, 1, 1, 3, 5, 8, 1, 1, 3);
        int[][] none = {{-1, 0}, {2, 0}, {3, 0}, {0, -1}, {0, 3}, {0, 8}, {1, Integer.MAX_VALUE},
            {Integer.MIN_VALUE, 0}};
        for (int[] n : none) {
            throwing("output", INDEX, () -> desk.output(n[0], n[1]));
            no("set", desk.set(n[0], n[1], 0));
        }
        no("set", desk.set(0, 0, 64));
        no("set", desk.set(0, 0, -1));
        for (int hour = 0; hour < 3; hour++) {
            yes("set", desk.set(0, hour, hour));
            yes("set", desk.set(1, hour, 63 - hour));
        }
        row(desk, 0, 0, 1, 2);
        row(desk, 1, 63, 62, 61);
        no("set", desk.set(1, 2, 64));
        row(desk, 1, 63, 62, 61);
    }

    private static void verifyRules() {
        begin("11 verify, each rule");
        CommitDesk desk = desk(4, 10, 13, 2, 2, 2, 5, 8, 1, 1, 3);
        due("all off", desk.verify(), 0);
        tell(desk, 0, 0, 0, 0, 9);
        due("1 below", desk.verify(), 41);
        tell(desk, 0, 0, 0, 0, 14);
        due("1 above", desk.verify(), 41);
        tell(desk, 0, 0, 0, 0, 10);
        due("2 too much", desk.verify(), 42);
        desk.demand(3, 11, 0);
        due("2 too little", desk.verify(), 42);
        desk.demand(3, 10, 4);
        due("3 too little", desk.verify(), 43);
        desk.demand(3, 10, 3);
        due("3 just there", desk.verify(), 0);
        demands(desk, 0, 10, 0, 0);
        tell(desk, 0, 0, 10, 0, 0);
        due("4", desk.verify(), 34);
        demands(desk, 10, 10, 0, 10);
        tell(desk, 0, 10, 10, 0, 10);
        due("5", desk.verify(), 45);
        demands(desk, 10, 13, 10, 10);
        tell(desk, 0, 10, 13, 10, 10);
        due("6 up", desk.verify(), 26);
        demands(desk, 10, 12, 13, 10);
        tell(desk, 0, 10, 12, 13, 10);
        due("6 down", desk.verify(), 46);
        demands(desk, 13, 13, 13, 13);
        tell(desk, 0, 13, 13, 13, 13);
        due("7", desk.verify(), 17);
        demands(desk, 12, 12, 12, 12);
        tell(desk, 0, 12, 12, 12, 12);
        due("7 just at it", desk.verify(), 0);
    }

    private static void verifyOrder() {
        begin("11 verify, which is told");
        CommitDesk desk = desk(8, 10, 13, 2, 2, 1, 5, 8, 1, 1, 3);
        desk.before(0, 0, 1);
        tell(desk, 0, 12, 63, 0, 0, 0, 0, 0, 0);
        desk.demand(0, 12, 0);
        due("5 ahead of 7, hour 0 ahead of 1", desk.verify(), 15);
        desk.demand(0, 12, 2);
        due("3 ahead of 5", desk.verify(), 13);
        desk.demand(0, 11, 3);
        due("2 ahead of 3", desk.verify(), 12);
        desk.set(1, 0, 9);
        due("1 of another set ahead of 2", desk.verify(), 11);
        desk.set(1, 0, 0);
        desk.before(0, 0, 2);
        desk.demand(0, 12, 0);
        due("7 alone", desk.verify(), 17);
        CommitDesk last = desk(8, 10, 13, 2, 2, 1);
        last.set(0, 7, 1);
        due("the last hour", last.verify(), 81);
        CommitDesk two = desk(2, 10, 13, 1, 1, 1, 5, 8, 3, 1, 3);
        two.before(0, 10, 1);
        two.before(1, 5, 1);
        tell(two, 0, 12, 12);
        demands(two, 12, 12);
        due("4 of set 1 ahead of 6 of set 0", two.verify(), 14);
        CommitDesk before = desk(2, 5, 5, 3, 3, 1);
        before.before(0, 5, 2);
        demands(before, 5, 0);
        tell(before, 0, 5, 0);
        due("hours before count for UP", before.verify(), 0);
        before.before(0, 0, 2);
        demands(before, 0, 5);
        tell(before, 0, 0, 5);
        due("hours before count for DOWN", before.verify(), 0);
    }

    private static void cost() {
        begin("12 cost");
        CommitDesk desk = desk(6, 5, 8, 1, 1, 3, 1, 1, 1, 1, 1);
        int[] whats = {-1, 3, Integer.MIN_VALUE, Integer.MAX_VALUE};
        for (int what : whats) {
            throwing("cost", ARGUMENT, () -> desk.cost(what));
        }
        due("all off", desk.cost(0) + desk.cost(1) + desk.cost(2), 0);
        desk.costs(0, 1000, 100, 10, 1);
        desk.starts(0, 10000, 3000, 500);
        desk.costs(1, 7, 0, 0, 0);
        desk.starts(1, 1, 2, 3);
        tell(desk, 0, 8, 0, 5, 0, 0, 7);
        tell(desk, 1, 0, 0, 0, 0, 0, 1);
        throwing("no plan", STATE, () -> desk.cost(0));
        throwing("no plan", STATE, () -> desk.cost(1));
        throwing("no plan", STATE, () -> desk.cost(2));
        throwing("both", ARGUMENT, () -> desk.cost(3));
        demands(desk, 8, 0, 5, 0, 0, 8);
        due("starts", desk.cost(1), 500 + 10000 + 3000 + 3);
        due("hours", desk.cost(2), 1111 + 1000 + 1110 + 7);
        due("both", desk.cost(0), 13503 + 3228);
        desk.before(0, 6, 1);
        due("no first start", desk.cost(1), 13003);
        desk.demand(0, 9, 0);
        throwing("no plan again", STATE, () -> desk.cost(0));
    }

    private static void price() {
        begin("13, 14 price, priceOf");
        CommitDesk desk = new CommitDesk(2);
        no("hour", desk.price(2, 0));
        no("hour", desk.price(-1, 0));
        no("price", desk.price(0, 100001));
        no("price", desk.price(0, -100001));
        yes("price", desk.price(0, 100000));
        yes("price", desk.price(1, -100000));
        due("priceOf", desk.priceOf(0), 100000);
        due("priceOf", desk.priceOf(1), -100000);
        throwing("priceOf", INDEX, () -> desk.priceOf(2));
        throwing("priceOf", INDEX, () -> desk.priceOf(-1));
        no("price", desk.price(0, Integer.MIN_VALUE));
        due("priceOf", desk.priceOf(0), 100000);
    }

    private static void aloneAndLone() {
        begin("15, 16 alone, lone");
        CommitDesk desk = desk(4, 5, 8, 1, 1, 1);
        throwing("alone", INDEX, () -> desk.alone(1));
        throwing("alone", INDEX, () -> desk.alone(-1));
        throwing("lone", INDEX, () -> desk.lone(1, 0));
        throwing("lone", INDEX, () -> desk.lone(-1, 0));
        throwing("lone", INDEX, () -> desk.lone(0, 4));
        throwing("lone", INDEX, () -> desk.lone(0, -1));
        due("alone", desk.alone(0), 0);
        loneRow(desk, 0, 0, 0, 0, 0);
        desk.costs(0, 100, 10, 20, 30);
        desk.starts(0, 1, 2, 50);
        desk.price(2, 100);
        due("one hour, LOW and RAMP at most", desk.alone(0), -600 + 110 + 50);
        loneRow(desk, 0, 0, 0, 6, 0);
        desk.price(2, 10000);
        due("ramping up ahead of it", desk.alone(0), -80000 + 50 + 110 + 130 + 160);
        loneRow(desk, 0, 6, 7, 8, 0);
        desk.before(0, 8, 1);
        due("from before", desk.alone(0), -80000 + 130 + 130 + 160);
        loneRow(desk, 0, 7, 7, 8, 0);
        CommitDesk must = desk(3, 5, 8, 3, 1, 1);
        must.costs(0, 100, 0, 0, 0);
        must.before(0, 8, 1);
        due("UP holds alone", must.alone(0), 200);
        loneRow(must, 0, 7, 6, 0);
        must.price(1, -100000);
        due("a loss that can't be helped", must.alone(0), 200 + 600000);
        loneRow(must, 0, 7, 6, 0);
        CommitDesk down = desk(3, 5, 5, 1, 3, 1);
        down.before(0, 0, 1);
        down.price(0, 10);
        down.price(1, 10);
        down.price(2, 10);
        due("DOWN holds alone", down.alone(0), -50);
        loneRow(down, 0, 0, 0, 5);
        down.demand(2, 77, 200);
        due("demand and reserve do not count", down.alone(0), -50);
        due("it leaves the table", down.output(0, 2), 0);
    }

    private static void aloneTies() {
        begin("15, 16 alone, the first one");
        CommitDesk desk = desk(2, 5, 8, 1, 1, 3);
        desk.costs(0, 50, 10, 10, 10);
        desk.price(0, 10);
        desk.price(1, 10);
        due("alone", desk.alone(0), 0);
        loneRow(desk, 0, 0, 0);
        desk.before(0, 8, 1);
        loneRow(desk, 0, 0, 0);
        CommitDesk up = desk(2, 5, 8, 2, 1, 3);
        up.costs(0, 50, 10, 10, 10);
        up.price(0, 10);
        up.price(1, 10);
        up.before(0, 8, 1);
        due("alone", up.alone(0), 0);
        loneRow(up, 0, 5, 0);
    }

    private static void bound() {
        begin("17 bound");
        CommitDesk desk = new CommitDesk(3);
        due("at first", desk.bound(), 0);
        demands(desk, 200, 200, 200);
        desk.price(0, 100000);
        desk.price(1, -100000);
        desk.price(2, 100000);
        due("without sets", desk.bound(), 20000000L);
        desk.unit(60, 60, 1, 1, 1);
        due("with a set", desk.bound(), 20000000L - 12000000L);
        desk.unit(60, 60, 1, 1, 1);
        desk.before(1, 60, 1);
        desk.costs(1, 10000, 0, 0, 0);
        desk.starts(1, 10, 0, 0);
        due("alone", desk.alone(1), -12000000L + 20000 + 10);
        due("with two", desk.bound(), 20000000L - 24000000L + 20010);
        CommitDesk all = new CommitDesk(8);
        for (int hour = 0; hour < 8; hour++) {
            all.demand(hour, 200, 0);
            all.price(hour, 100000);
        }
        due("the most", all.bound(), 160000000L);
    }

    private static void improve() {
        begin("18 improve");
        CommitDesk desk = new CommitDesk(1);
        int[] rounds = {0, -1, 41, Integer.MAX_VALUE, Integer.MIN_VALUE};
        for (int r : rounds) {
            throwing("improve", ARGUMENT, () -> desk.improve(r));
        }
        desk.unit(10, 10, 1, 1, 1);
        desk.costs(0, 1000, 0, 0, 0);
        desk.demand(0, 10, 0);
        due("64", desk.improve(1), 640);
        due("priceOf", desk.priceOf(0), 64);
        due("128: the set is on and meets it", desk.improve(1), 1000);
        due("priceOf", desk.priceOf(0), 128);
        due("STEP", desk.count(2), 64);
        due("no change is no better", desk.improve(1), 1000);
        due("STEP", desk.count(2), 32);
        due("priceOf", desk.priceOf(0), 128);
        due("40 rounds", desk.improve(40), 1000);
        due("STEP", desk.count(2), 1);
        due("bound", desk.bound(), 1000);
        CommitDesk more = desk(1, 10, 13, 1, 1, 3);
        more.costs(0, 100, 10, 10, 10);
        more.demand(0, 11, 0);
        more.price(0, 50);
        due("bound", more.bound(), 550 - 650 + 130);
        due("outputs are more: less by STEP", more.improve(1), 30);
        due("priceOf", more.priceOf(0), -14);
        due("STEP", more.count(2), 32);
        due("then more by half", more.improve(1), 198 - 13 * 18 + 130);
        due("priceOf", more.priceOf(0), 18);
        due("bound", more.bound(), 94);
    }

    private static void improveAtTheEdges() {
        begin("18 improve, prices' ends");
        CommitDesk high = new CommitDesk(2);
        high.demand(0, 1, 0);
        high.price(0, 99990);
        due("improve", high.improve(1), 100000);
        due("priceOf", high.priceOf(0), 100000);
        due("priceOf", high.priceOf(1), 0);
        due("improve", high.improve(1), 100000);
        due("STEP", high.count(2), 32);
        due("priceOf", high.priceOf(0), 100000);
        CommitDesk low = desk(1, 5, 5, 3, 1, 1);
        low.before(0, 5, 1);
        low.price(0, -99999);
        due("bound", low.bound(), 499995);
        due("improve", low.improve(1), 500000);
        due("priceOf", low.priceOf(0), -100000);
        due("improve", low.improve(40), 500000);
        due("priceOf", low.priceOf(0), -100000);
    }

    private static CommitDesk improved() {
        CommitDesk desk = desk(2, 10, 13, 2, 1, 3);
        desk.costs(0, 100, 10, 10, 10);
        demands(desk, 11, 12);
        desk.improve(40);
        due("STEP", desk.count(2), 1);
        return desk;
    }

    /** Behind a change BEST is the present bound: prices far off show that the old one is gone. */
    private static void whatStartsImprovingAfresh() {
        begin("afresh");
        CommitDesk desk = improved();
        desk.price(0, desk.priceOf(0));
        due("price that it is", desk.count(2), 64);
        desk = improved();
        desk.price(0, 5000);
        due("price", desk.count(2), 64);
        due("BEST", desk.improve(1) < 0 ? 1 : 0, 1);
        desk = improved();
        desk.costs(0, 1, 1, 1, 1);
        due("costs", desk.count(2), 64);
        desk = improved();
        desk.starts(0, 1, 1, 1);
        due("starts", desk.count(2), 64);
        desk = improved();
        desk.before(0, 10, 1);
        due("before", desk.count(2), 64);
        desk = improved();
        desk.demand(1, 10, 0);
        due("demand", desk.count(2), 64);
        desk = improved();
        desk.unit(1, 1, 1, 1, 1);
        due("unit", desk.count(2), 64);
    }

    private static void whatLeavesImproving() {
        begin("not afresh");
        CommitDesk desk = improved();
        long best = desk.improve(1);
        no("price", desk.price(0, 100001));
        no("costs", desk.costs(0, -1, 0, 0, 0));
        no("starts", desk.starts(0, -1, 0, 0));
        no("before", desk.before(0, 1, 1));
        no("demand", desk.demand(0, -1, 0));
        throwing("unit", ARGUMENT, () -> desk.unit(0, 0, 0, 0, 0));
        throwing("improve", ARGUMENT, () -> desk.improve(0));
        desk.plan();
        desk.redispatch();
        desk.set(0, 0, 1);
        desk.keep(0);
        desk.take(0);
        desk.verify();
        desk.bound();
        desk.alone(0);
        desk.lone(0, 0);
        due("STEP", desk.count(2), 1);
        due("BEST", desk.improve(1) >= best ? 1 : 0, 1);
    }

    private static void keepAndTake() {
        begin("19, 20 keep, take");
        CommitDesk desk = desk(2, 5, 8, 1, 1, 3);
        for (int place = -1; place < 5; place++) {
            no("take of none", desk.take(place));
        }
        no("keep", desk.keep(4));
        no("keep", desk.keep(-1));
        no("keep", desk.keep(Integer.MAX_VALUE));
        tell(desk, 0, 1, 2);
        yes("keep", desk.keep(0));
        tell(desk, 0, 3, 4);
        yes("keep", desk.keep(3));
        due("count(3)", desk.count(3), 2);
        tell(desk, 0, 5, 6);
        yes("take", desk.take(0));
        row(desk, 0, 1, 2);
        yes("take", desk.take(3));
        row(desk, 0, 3, 4);
        no("take", desk.take(1));
        no("take", desk.take(4));
        row(desk, 0, 3, 4);
        desk.unit(1, 1, 1, 1, 1);
        tell(desk, 1, 7, 8);
        yes("take again", desk.take(0));
        row(desk, 0, 1, 2);
        row(desk, 1, 0, 0);
        tell(desk, 1, 7, 8);
        yes("keep in place of one", desk.keep(0));
        due("count(3)", desk.count(3), 2);
        desk.set(1, 0, 9);
        yes("take", desk.take(0));
        row(desk, 1, 7, 8);
    }

    private static void count() {
        begin("21 count");
        CommitDesk desk = desk(8, 5, 8, 1, 1, 3);
        for (int hour = 0; hour < 8; hour++) {
            desk.demand(hour, 100 + hour, 50 + hour);
        }
        for (int hour = 0; hour < 8; hour++) {
            due("demand", desk.count(10 + hour), 100 + hour);
            due("reserve", desk.count(20 + hour), 50 + hour);
        }
        int[] none = {-1, 4, 5, 9, 18, 19, 28, 29, 30, 37, 100, Integer.MAX_VALUE,
            Integer.MIN_VALUE, -10, -20, Integer.MIN_VALUE + 9, Integer.MIN_VALUE + 19};
        for (int what : none) {
            due("count(" + what + ")", desk.count(what), -1);
        }
        due("count(0)", desk.count(0), 1);
        due("count(1)", desk.count(1), 8);
        due("count(2)", desk.count(2), 64);
        due("count(3)", desk.count(3), 0);
        for (int place = 3; place >= 0; place--) {
            desk.keep(place);
            due("count(3)", desk.count(3), 4 - place);
        }
        CommitDesk three = new CommitDesk(3);
        due("hour 2", three.count(12), 0);
        due("hour 3", three.count(13), -1);
        due("hour 2", three.count(22), 0);
        due("hour 3", three.count(23), -1);
    }

    private static void refusedChangesNothing() {
        begin("refused");
        CommitDesk desk = desk(2, 5, 8, 1, 1, 3);
        desk.costs(0, 10, 1, 2, 3);
        desk.starts(0, 5, 6, 7);
        demands(desk, 6, 8);
        due("plan", desk.plan(), 7 + 11 + 16);
        no("costs", desk.costs(0, 1, 1, 1, -1));
        no("starts", desk.starts(0, 1, 1, -1));
        no("before", desk.before(0, 5, 101));
        no("before", desk.before(0, 4, 1));
        no("demand", desk.demand(0, 5, 201));
        no("set", desk.set(0, 0, 99));
        no("price", desk.price(0, 100001));
        due("cost", desk.cost(0), 34);
        due("plan", desk.plan(), 34);
        row(desk, 0, 6, 8);
    }
}
