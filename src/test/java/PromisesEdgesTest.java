/** Promises 1 to 21: each sentence that names a boundary case, by itself. */
public final class PromisesEdgesTest {
    public static void main(String[] args) {
        newObject();
        toldSets();
        toldHours();
        plans();
        tables();
        prices();
        improving();
        places();
        counts();
        Sentences.end();
    }

    private static void newObject() {
        Sentences.sentence("1: So many hours (1 .. 8", PromisesEdgesTest::hoursAsTold);
        Sentences.sentence("1: else 6)", PromisesEdgesTest::hoursElse);
        Sentences.sentence("1: no sets", PromisesEdgesTest::noSets);
        Sentences.sentence("1: a table of zeros", PromisesEdgesTest::tableOfZeros);
    }

    private static void toldSets() {
        Sentences.sentence("2: its number", PromisesEdgesTest::unitNumber);
        Sentences.sentence("2: (costs 0", PromisesEdgesTest::unitCostsNothing);
        Sentences.sentence("2: off for 3 hours before", PromisesEdgesTest::unitOffForThree);
        Sentences.sentence("2: its outputs in the table are 0)", PromisesEdgesTest::unitOutputs);
        Sentences.sentence("2: IllegalArgumentException if numbers can't be",
                PromisesEdgesTest::unitRefusesNumbers);
        Sentences.sentence("2: IllegalStateException if there are 3",
                PromisesEdgesTest::unitRefusesFourth);
        Sentences.sentence("3: true; false if there is none such", PromisesEdgesTest::costsOfNone);
        Sentences.sentence("3: false .. or they can't be", PromisesEdgesTest::costsThatCannotBe);
        Sentences.sentence("4: true; false if there is none such", PromisesEdgesTest::startsOfNone);
        Sentences.sentence("4: false .. or they can't be", PromisesEdgesTest::startsThatCannotBe);
        Sentences.sentence("5: off (output 0) or on at an output", PromisesEdgesTest::beforeOutput);
        Sentences.sentence("5: for so many hours (1 .. 100)", PromisesEdgesTest::beforeHours);
        Sentences.sentence("5: true; false if there is none such", PromisesEdgesTest::beforeOfNone);
        Sentences.sentence("5: false .. the output is neither 0 nor LOW .. HIGH",
                PromisesEdgesTest::beforeOutputThatCannotBe);
        Sentences.sentence("5: false .. or hours can't be",
                PromisesEdgesTest::beforeHoursThatCannotBe);
    }

    private static void toldHours() {
        Sentences.sentence("6: true; false if there is none such", PromisesEdgesTest::demandOfNone);
        Sentences.sentence("6: false .. or they can't be", PromisesEdgesTest::demandThatCannotBe);
    }

    private static void plans() {
        Sentences.sentence("7: The table becomes the first one of the plans that cost least",
                PromisesEdgesTest::planBecomesTable);
        Sentences.sentence("7: (whatever it was)", PromisesEdgesTest::planWhateverItWas);
        Sentences.sentence("7: its cost", PromisesEdgesTest::planCosts);
        Sentences.sentence("7: NONE if there is no plan (the table stays)",
                PromisesEdgesTest::planNone);
        Sentences.sentence("8: The same of the plans in which just those are ON that are ON in the"
                + " table", PromisesEdgesTest::redispatchJustThose);
        Sentences.sentence("8: .. NONE if there is none (the table stays)",
                PromisesEdgesTest::redispatchNone);
        Sentences.sentence("8: .. of none ON, and of all", PromisesEdgesTest::redispatchNoneAndAll);
    }

    private static void tables() {
        Sentences.sentence("9: IndexOutOfBoundsException if there is no such set",
                PromisesEdgesTest::outputOfNoSet);
        Sentences.sentence("9: .. or hour", PromisesEdgesTest::outputOfNoHour);
        Sentences.sentence("10: An output is told to the table (0 .. 63): true",
                PromisesEdgesTest::setOutputs);
        Sentences.sentence("10: false if there is no such set", PromisesEdgesTest::setOfNoSet);
        Sentences.sentence("10: .. or hour", PromisesEdgesTest::setOfNoHour);
        Sentences.sentence("10: .. or it can't be", PromisesEdgesTest::setThatCannotBe);
        Sentences.sentence("11: 0 if the table is a plan", PromisesEdgesTest::verifyPlan);
        Sentences.sentence("11: else 10 times the first hour in which a rule does not hold and 10",
                PromisesEdgesTest::verifyFirstHour);
        Sentences.sentence("11: and the least such rule", PromisesEdgesTest::verifyLeastRule);
        Sentences.sentence("12: what 0: its cost, 1: that of starts, 2: of hours",
                PromisesEdgesTest::costParts);
        Sentences.sentence("12: IllegalArgumentException if there is no such what",
                PromisesEdgesTest::costOfNoWhat);
        Sentences.sentence("12: IllegalStateException if it is no plan",
                PromisesEdgesTest::costOfNoPlan);
    }

    private static void prices() {
        Sentences.sentence("13: (also if it is that: STEP and BEST are as behind a change)",
                PromisesEdgesTest::priceThatIs);
        Sentences.sentence("13: true; false if there is no such hour",
                PromisesEdgesTest::priceOfNoHour);
        Sentences.sentence("13: .. or price", PromisesEdgesTest::priceThatCannotBe);
        Sentences.sentence("14: IndexOutOfBoundsException if there is none such",
                PromisesEdgesTest::priceOfNone);
        Sentences.sentence("15: IndexOutOfBoundsException if there is none such",
                PromisesEdgesTest::aloneOfNone);
        Sentences.sentence("16: IndexOutOfBoundsException if there is no such set",
                PromisesEdgesTest::loneOfNoSet);
        Sentences.sentence("16: .. or hour", PromisesEdgesTest::loneOfNoHour);
        Sentences.sentence("17: The bound by the present prices", PromisesEdgesTest::boundPresent);
        Sentences.sentence("17: (without sets demand times price)",
                PromisesEdgesTest::boundWithoutSets);
    }

    private static void improving() {
        Sentences.sentence("18: So many rounds of improving", PromisesEdgesTest::improveRounds);
        Sentences.sentence("18: (prices change by it)", PromisesEdgesTest::improveChangesPrices);
        Sentences.sentence("18: the best bound", PromisesEdgesTest::improveBest);
        Sentences.sentence("18: IllegalArgumentException if they are not 1 .. 40",
                PromisesEdgesTest::improveRange);
    }

    private static void places() {
        Sentences.sentence("19: The table is kept at a place 0 .. 3: true",
                PromisesEdgesTest::keepPlaces);
        Sentences.sentence("19: (in place of one that was)", PromisesEdgesTest::keepInPlace);
        Sentences.sentence("19: false if there is none such", PromisesEdgesTest::keepOfNone);
        Sentences.sentence("20: The table becomes the one that is kept at a place: true",
                PromisesEdgesTest::takeKept);
        Sentences.sentence("20: false if none is", PromisesEdgesTest::takeOfNone);
        Sentences.sentence("20: (Sets that came later have zeros.)",
                PromisesEdgesTest::takeLaterSets);
    }

    private static void counts() {
        Sentences.sentence("21: what 0: sets", PromisesEdgesTest::countSets);
        Sentences.sentence("21: 1: hours", PromisesEdgesTest::countHours);
        Sentences.sentence("21: 2: STEP", PromisesEdgesTest::countStep);
        Sentences.sentence("21: 3: places with tables", PromisesEdgesTest::countPlaces);
        Sentences.sentence("21: from 10 on hour what - 10's demand, from 20 on its reserve",
                PromisesEdgesTest::countDemands);
        Sentences.sentence("21: NONE for another what", PromisesEdgesTest::countOfNoWhat);
        Sentences.sentence("21: .. or hour", PromisesEdgesTest::countOfNoHour);
    }

    private static Desk sets(int hours, int sets) {
        Desk desk = new Desk(hours);
        for (int set = 0; set < sets; set++) {
            desk.unit(10, 13, 1, 1, 3);
        }
        return desk;
    }

    private static void hoursAsTold() {
        for (int hours = 1; hours <= 8; hours++) {
            Desk desk = sets(hours, 1).due(hours, "count", 1).due(0, "priceOf", hours - 1);
            desk.due(0, "output", 0, hours - 1).due(Desk.INDEX, "priceOf", hours);
            desk.due(true, "demand", hours - 1, 10, 0).due(false, "demand", hours, 10, 0);
            desk.due(0, "plan").due(10, "output", 0, hours - 1);
        }
    }

    private static void hoursElse() {
        for (int hours : new int[] {0, 9, -1, -8, 10, 257, 264, 65537, Integer.MIN_VALUE,
            Integer.MIN_VALUE + 1, Integer.MAX_VALUE}) {
            Desk desk = sets(hours, 1).due(6, "count", 1).due(0, "priceOf", 5);
            desk.due(Desk.INDEX, "priceOf", 6).due(true, "demand", 5, 10, 0).due(0, "plan");
            desk.row(0, 0, 0, 0, 0, 0, 10).due(Desk.INDEX, "output", 0, 6);
        }
    }

    private static void noSets() {
        for (int hours = 0; hours <= 9; hours++) {
            Desk desk = new Desk(hours).due(0, "count", 0).due(Desk.INDEX, "output", 0, 0);
            desk.due(Desk.INDEX, "alone", 0).due(Desk.INDEX, "lone", 0, 0);
            desk.due(false, "costs", 0, 0, 0, 0, 0).due(false, "starts", 0, 0, 0, 0);
            desk.due(false, "before", 0, 0, 1).due(false, "set", 0, 0, 0);
            desk.due(0, "plan").due(0, "redispatch").due(0, "verify").due(0, "cost", 0);
            desk.due(0, "unit", 10, 10, 1, 1, 1);
        }
    }

    private static void tableOfZeros() {
        for (int hours = 1; hours <= 8; hours++) {
            Desk desk = sets(hours, 3);
            for (int set = 0; set < 3; set++) {
                desk.row(set, new int[hours]);
            }
            desk.due(0, "verify").due(0, "redispatch");
        }
    }

    private static void unitNumber() {
        Desk desk = new Desk(2);
        for (int set = 0; set < 3; set++) {
            desk.refuses(Desk.ARGUMENT, "unit", 0, 0, 0, 0, 0);
            desk.due(set, "unit", 10 + set, 10 + set, 1, 1, 1).due(set + 1, "count", 0);
        }
        desk.demands(11, 12).due(0, "plan").row(0, 0, 0).row(1, 11, 0).row(2, 0, 12);
    }

    private static void unitCostsNothing() {
        Desk desk = sets(1, 2);
        for (int set = 0; set < 2; set++) {
            desk.due(true, "costs", set, 9, 9, 9, 9).due(true, "starts", set, 9, 9, 9);
        }
        desk.unit(10, 13, 1, 1, 3).demands(13).due(0, "plan").row(2, 13).due(0, "cost", 0);
        desk.prices(1).due(-13, "alone", 2);
    }

    private static void unitOffForThree() {
        Desk desk = new Desk(2).unit(10, 13, 3, 3, 1).due(true, "starts", 0, 1, 20, 300);
        desk.demands(11, 12).due(300, "plan").due(300, "cost", 1).row(0, 11, 12);
        desk.prices(100, 0).due(300 - 1100, "alone", 0).lone(0, 11, 10);
        desk.demands(12, 12).due(-1, "plan").demands(0, 0).due(0, "plan");
    }

    private static void unitOutputs() {
        Desk desk = sets(3, 1).tell(0, 63, 1, 2).due(true, "keep", 0).unit(5, 8, 1, 1, 1);
        desk.row(0, 63, 1, 2).row(1, 0, 0, 0).tell(1, 3, 4, 5).unit(5, 8, 1, 1, 1);
        desk.row(0, 63, 1, 2).row(1, 3, 4, 5).row(2, 0, 0, 0);
        Desk planned = sets(2, 2).demands(26, 26).due(0, "plan").unit(5, 8, 1, 1, 1);
        planned.row(0, 13, 13).row(1, 13, 13).row(2, 0, 0).due(0, "verify");
        Desk refused = sets(2, 1).due(-1, "count", 4).demands(200, 200).due(-1, "plan");
        refused.unit(5, 8, 1, 1, 1).row(1, 0, 0);
    }

    private static void unitRefusesNumbers() {
        Desk desk = Desk.busy();
        desk.range(Desk.ARGUMENT, 0, 20, 23, "unit", 20, 23, 1, 1, 1);
        desk.range(Desk.ARGUMENT, 1, 20, 23, "unit", 20, 23, 1, 1, 1);
        for (int place = 2; place <= 4; place++) {
            desk.range(Desk.ARGUMENT, place, 1, 3, "unit", 1, 4, 3, 3, 3);
        }
        desk.takes("unit", 1, 4, 3, 3, 3).takes("unit", 57, 60, 1, 1, 1);
        desk.refuses(Desk.ARGUMENT, "unit", 0, 3, 3, 3, 3);
        desk.refuses(Desk.ARGUMENT, "unit", 58, 61, 1, 1, 1);
    }

    private static void unitRefusesFourth() {
        Desk.busy().takes("unit", 1, 1, 1, 1, 1).takes("unit", 57, 60, 3, 3, 3);
        Desk desk = Desk.full();
        desk.refuses(Desk.STATE, "unit", 1, 1, 1, 1, 1);
        desk.refuses(Desk.STATE, "unit", 57, 60, 3, 3, 3).due(3, "count", 0);
    }

    private static void noSuchSet(String name, int... rest) {
        for (int sets = 0; sets <= 3; sets++) {
            Desk desk = sets(2, sets);
            int[] with = new int[rest.length + 1];
            System.arraycopy(rest, 0, with, 1, rest.length);
            if (sets > 0) {
                desk.range(Desk.FALSE, 0, 0, sets - 1, name, with);
            } else {
                desk.refuses(Desk.FALSE, name, with);
            }
        }
    }

    private static void costsOfNone() {
        noSuchSet("costs", 1, 2, 3, 4);
    }

    private static void costsThatCannotBe() {
        for (int place = 1; place <= 4; place++) {
            Desk.busy().range(Desk.FALSE, place, 0, 10000, "costs", 0, 1, 2, 3, 4);
        }
        Desk narrow = new Desk(1).unit(10, 10, 1, 1, 1).takes("costs", 0, 1, 10000, 10000, 10000);
        narrow.refuses(Desk.FALSE, "costs", 0, 1, 10001, 0, 0);
        narrow.refuses(Desk.FALSE, "costs", 0, 1, 0, 0, -1);
    }

    private static void startsOfNone() {
        noSuchSet("starts", 1, 2, 3);
    }

    private static void startsThatCannotBe() {
        for (int place = 1; place <= 3; place++) {
            Desk.busy().range(Desk.FALSE, place, 0, 10000, "starts", 1, 1, 2, 3);
        }
    }

    private static void beforeOutput() {
        Desk desk = sets(1, 1).due(true, "starts", 0, 5, 5, 5).demands(10);
        desk.due(true, "before", 0, 10, 1).due(0, "plan").due(0, "cost", 1);
        desk.due(true, "before", 0, 13, 1).due(0, "plan").due(0, "cost", 1);
        desk.due(true, "before", 0, 0, 1).due(5, "plan").due(5, "cost", 1);
    }

    private static void beforeHours() {
        for (int hours : new int[] {1, 2, 3, 4, 99, 100}) {
            int least = Math.min(hours, 3);
            Desk desk = new Desk(1).unit(10, 10, 3, 3, 1).due(true, "before", 0, 10, hours);
            desk.due(least < 3 ? 14 : 0, "verify").due(least < 3 ? -1 : 0, "plan");
            desk.due(true, "before", 0, 0, hours).tell(0, 10).demands(10);
            desk.due(least < 3 ? 15 : 0, "verify").due(least < 3 ? -1 : 0, "plan");
        }
    }

    private static void beforeOfNone() {
        noSuchSet("before", 0, 1);
        noSuchSet("before", 10, 1);
    }

    private static void beforeOutputThatCannotBe() {
        Desk desk = Desk.busy().takes("before", 0, 0, 1);
        for (int output : new int[] {10, 11, 12, 13}) {
            desk.takes("before", 0, output, 1);
        }
        for (int output : new int[] {1, 9, 14, 63, -1, -10, 266, 65546, Integer.MIN_VALUE,
            Integer.MAX_VALUE}) {
            desk.refuses(Desk.FALSE, "before", 0, output, 1);
        }
        desk.takes("before", 1, 5, 1).takes("before", 1, 8, 1);
        desk.refuses(Desk.FALSE, "before", 1, 4, 1).refuses(Desk.FALSE, "before", 1, 9, 1);
        Desk least = new Desk(1).unit(1, 1, 1, 1, 1).takes("before", 0, 1, 1);
        least.takes("before", 0, 0, 1).refuses(Desk.FALSE, "before", 0, 2, 1);
        Desk most = new Desk(1).unit(60, 60, 1, 1, 1).takes("before", 0, 60, 1);
        most.refuses(Desk.FALSE, "before", 0, 61, 1).refuses(Desk.FALSE, "before", 0, 59, 1);
    }

    private static void beforeHoursThatCannotBe() {
        Desk.busy().range(Desk.FALSE, 2, 1, 100, "before", 0, 0, 1);
        Desk.busy().range(Desk.FALSE, 2, 1, 100, "before", 0, 13, 1);
    }

    private static void demandOfNone() {
        for (int hours = 1; hours <= 8; hours++) {
            sets(hours, 1).range(Desk.FALSE, 0, 0, hours - 1, "demand", 0, 7, 7);
        }
    }

    private static void demandThatCannotBe() {
        Desk.busy().range(Desk.FALSE, 1, 0, 200, "demand", 3, 7, 7);
        Desk.busy().range(Desk.FALSE, 2, 0, 200, "demand", 3, 7, 7);
        new Desk(1).due(true, "demand", 0, 200, 200).due(200, "count", 10).due(200, "count", 20);
    }

    private static void planBecomesTable() {
        Desk desk = sets(2, 2).due(true, "costs", 0, 5, 1, 1, 1).demands(13, 23);
        desk.due(5, "plan").row(0, 0, 10).row(1, 13, 13).due(0, "verify");
        desk.demands(0, 0).row(0, 0, 10).due(0, "plan").row(0, 0, 0).row(1, 0, 0);
    }

    private static void planWhateverItWas() {
        Desk desk = Desk.busy().tell(0, 63, 63, 63, 63).tell(1, 1, 1, 1, 1).due(580, "plan");
        desk.row(0, 11, 12, 12, 0).row(1, 0, 6, 5, 6);
        desk.tell(0, 0, 0, 0, 0).tell(1, 0, 0, 0, 0).due(580, "plan").due(580, "plan");
        desk.row(0, 11, 12, 12, 0).row(1, 0, 6, 5, 6);
    }

    private static void planCosts() {
        sets(8, 3).due(0, "plan").due(0, "cost", 0);
        Desk desk = sets(8, 3);
        for (int set = 0; set < 3; set++) {
            desk.due(true, "costs", set, 10000, 10000, 10000, 10000);
            desk.due(true, "starts", set, 10000, 10000, 10000);
        }
        desk.demands(39, 39, 39, 39, 39, 39, 39, 39).due(990000, "plan").due(990000, "cost", 0);
        desk.demands(39, 0, 39, 0, 39, 0, 39, 0).due(600000, "plan").due(600000, "cost", 0);
    }

    private static void planNone() {
        Desk desk = Desk.busy().due(true, "demand", 3, 60, 0).due(-1, "plan");
        desk.row(0, 11, 12, 12, 0).row(1, 0, 6, 5, 6);
        desk.tell(0, 63, 1, 0, 9).due(-1, "plan").row(0, 63, 1, 0, 9).row(1, 0, 6, 5, 6);
        desk.refuses("-1", "plan");
        Desk first = sets(3, 1).tell(0, 10, 10, 10).due(true, "demand", 0, 9, 0).due(-1, "plan");
        first.row(0, 10, 10, 10);
        Desk last = sets(3, 1).tell(0, 10, 10, 10).due(true, "demand", 2, 0, 1).due(-1, "plan");
        last.row(0, 10, 10, 10);
    }

    private static void redispatchJustThose() {
        Desk desk = sets(2, 2).due(true, "costs", 0, 50, 1, 1, 1).demands(13, 23);
        desk.due(true, "costs", 1, 10, 9, 9, 9).tell(0, 63, 1).tell(1, 0, 2);
        desk.due(53 + 53 + 10, "redispatch").row(0, 13, 13).row(1, 0, 10);
        desk.tell(0, 0, 10).tell(1, 13, 13).due(37 + 53 + 10, "redispatch");
        desk.row(0, 0, 13).row(1, 13, 10);
    }

    private static void redispatchNone() {
        Desk desk = Desk.busy().tell(0, 63, 63, 63, 63).due(-1, "redispatch");
        desk.row(0, 63, 63, 63, 63).row(1, 0, 6, 5, 6).refuses("-1", "redispatch");
        Desk rules = new Desk(2).unit(10, 13, 2, 1, 1).tell(0, 1, 0).demands(10, 0);
        rules.due(-1, "redispatch").row(0, 1, 0).tell(0, 1, 2).demands(10, 10);
        rules.due(0, "redispatch").row(0, 10, 10);
    }

    private static void redispatchNoneAndAll() {
        Desk desk = sets(8, 3).due(0, "redispatch");
        for (int set = 0; set < 3; set++) {
            desk.tell(set, 1, 1, 1, 1, 1, 1, 1, 1);
        }
        desk.due(-1, "redispatch").demands(30, 31, 39, 33, 34, 35, 36, 37).due(0, "redispatch");
        desk.row(0, 10, 10, 13, 10, 10, 10, 10, 11).row(1, 10, 10, 13, 10, 11, 12, 13, 13);
        desk.row(2, 10, 11, 13, 13, 13, 13, 13, 13);
        for (int set = 0; set < 3; set++) {
            desk.tell(set, 0, 0, 0, 0, 0, 0, 0, 0);
        }
        desk.due(-1, "redispatch").row(2, 0, 0, 0, 0, 0, 0, 0, 0);
        new Desk(8).due(0, "redispatch").due(true, "demand", 7, 1, 0).due(-1, "redispatch");
    }

    private static void outputOfNoSet() {
        for (int sets = 1; sets <= 3; sets++) {
            sets(2, sets).range(Desk.INDEX, 0, 0, sets - 1, "output", 0, 1);
        }
        new Desk(2).refuses(Desk.INDEX, "output", 0, 0).refuses(Desk.INDEX, "output", -1, 0);
    }

    private static void outputOfNoHour() {
        for (int hours = 1; hours <= 8; hours++) {
            sets(hours, 1).range(Desk.INDEX, 1, 0, hours - 1, "output", 0, 0);
        }
    }

    private static void setOutputs() {
        Desk desk = sets(8, 3);
        for (int output = 0; output <= 63; output++) {
            int set = output % 3;
            int hour = output % 8;
            desk.due(true, "set", set, hour, output).due(output, "output", set, hour);
        }
        desk.row(0, 48, 57, 42, 51, 60, 45, 54, 63);
    }

    private static void setOfNoSet() {
        noSuchSet("set", 1, 63);
        noSuchSet("set", 0, 0);
    }

    private static void setOfNoHour() {
        for (int hours = 1; hours <= 8; hours++) {
            sets(hours, 2).range(Desk.FALSE, 1, 0, hours - 1, "set", 0, 0, 9);
        }
    }

    private static void setThatCannotBe() {
        Desk.busy().range(Desk.FALSE, 2, 0, 63, "set", 0, 3, 10);
        Desk.busy().range(Desk.FALSE, 2, 0, 63, "set", 1, 0, 10);
    }

    private static void verifyPlan() {
        new Desk(1).due(0, "verify");
        sets(8, 3).due(0, "verify");
        Desk.busy().due(0, "verify").due(true, "take", 2).due(11, "verify");
    }

    private static void verifyFirstHour() {
        for (int hour = 0; hour < 8; hour++) {
            Desk desk = sets(8, 1);
            for (int later = 7; later >= hour; later--) {
                desk.due(true, "set", 0, later, 1).due(10 * later + 11, "verify");
            }
            desk.due(true, "set", 0, hour, 0).due(hour == 7 ? 0 : 10 * hour + 21, "verify");
        }
    }

    /** In one hour all rules but 6 are broken; they are mended one by one, the least ahead. */
    private static void verifyLeastRule() {
        Desk desk = new Desk(1).unit(10, 13, 1, 1, 1).unit(5, 5, 3, 1, 1).unit(10, 13, 1, 3, 1);
        desk.due(true, "before", 0, 10, 1).due(true, "before", 1, 5, 2);
        desk.due(true, "before", 2, 0, 2).tell(0, 14).tell(2, 12);
        desk.due(true, "demand", 0, 24, 3).due(11, "verify");
        desk.tell(0, 13).due(12, "verify");
        desk.due(true, "demand", 0, 25, 3).due(13, "verify");
        desk.due(true, "demand", 0, 25, 1).due(14, "verify");
        desk.due(true, "before", 1, 5, 3).due(15, "verify");
        desk.due(true, "before", 2, 0, 3).due(16, "verify");
        desk.due(true, "before", 0, 12, 1).due(17, "verify");
        desk.due(true, "demand", 0, 24, 1).tell(2, 11).due(0, "verify");
    }

    private static void costParts() {
        Desk desk = Desk.busy().due(580, "cost", 0).due(35, "cost", 1).due(545, "cost", 2);
        desk.due(true, "starts", 1, 0, 0, 0).due(545, "cost", 0).due(0, "cost", 1);
        desk.due(545, "cost", 2);
        new Desk(1).due(0, "cost", 0).due(0, "cost", 1).due(0, "cost", 2);
    }

    private static void costOfNoWhat() {
        Desk.busy().range(Desk.ARGUMENT, 0, 0, 2, "cost", 0);
        new Desk(1).range(Desk.ARGUMENT, 0, 0, 2, "cost", 0);
    }

    private static void costOfNoPlan() {
        for (int what = 0; what <= 2; what++) {
            Desk desk = Desk.busy().takes("cost", what).due(true, "demand", 3, 7, 1);
            desk.refuses(Desk.STATE, "cost", what).due(true, "demand", 3, 6, 1);
            desk.takes("cost", what).due(true, "demand", 3, 6, 3).refuses(Desk.STATE, "cost", what);
            desk.due(true, "demand", 3, 6, 2).takes("cost", what);
        }
        new Desk(1).demands(1).refuses(Desk.STATE, "cost", 0);
    }

    private static void priceThatIs() {
        Desk desk = Desk.busy().due(16, "count", 2).due(206, "bound");
        int now = desk.number("priceOf", 3);
        desk.due(true, "price", 3, now).due(64, "count", 2).due(206, "bound");
        desk.due(now, "priceOf", 3).due(206, "improve", 1).due(32, "count", 2);
    }

    private static void priceOfNoHour() {
        for (int hours = 1; hours <= 8; hours++) {
            sets(hours, 1).range(Desk.FALSE, 0, 0, hours - 1, "price", 0, 7);
        }
    }

    private static void priceThatCannotBe() {
        Desk.busy().range(Desk.FALSE, 1, -100000, 100000, "price", 0, 7);
        Desk.busy().range(Desk.FALSE, 1, -100000, 100000, "price", 3, 7);
    }

    private static void priceOfNone() {
        for (int hours = 1; hours <= 8; hours++) {
            int last = hours - 1;
            Desk desk = new Desk(hours).due(true, "price", last, 7).due(7, "priceOf", last);
            desk.range(Desk.INDEX, 0, 0, hours - 1, "priceOf", 0);
        }
    }

    private static void aloneOfNone() {
        for (int sets = 1; sets <= 3; sets++) {
            sets(2, sets).range(Desk.INDEX, 0, 0, sets - 1, "alone", 0);
        }
        new Desk(2).refuses(Desk.INDEX, "alone", 0).refuses(Desk.INDEX, "alone", -1);
    }

    private static void loneOfNoSet() {
        for (int sets = 1; sets <= 3; sets++) {
            sets(2, sets).range(Desk.INDEX, 0, 0, sets - 1, "lone", 0, 1);
        }
        new Desk(2).refuses(Desk.INDEX, "lone", 0, 0).refuses(Desk.INDEX, "lone", -1, 0);
    }

    private static void loneOfNoHour() {
        for (int hours = 1; hours <= 8; hours++) {
            sets(hours, 1).range(Desk.INDEX, 1, 0, hours - 1, "lone", 0, 0);
        }
    }

    private static void boundPresent() {
        Desk desk = Desk.busy().due(206, "bound").due(501, "improve", 1).due(366, "bound");
        desk.prices(0, 0, 0, 0).due(100, "bound").due(100, "alone", 0).due(0, "alone", 1);
    }

    private static void boundWithoutSets() {
        Desk desk = new Desk(8).due(0, "bound");
        for (int hour = 0; hour < 8; hour++) {
            desk.due(true, "demand", hour, 200, 200).due(true, "price", hour, -100000);
        }
        desk.due(-160000000, "bound").prices(1, 2, 3, 4, 5, 6, 7, 8).due(7200, "bound");
        desk.demands(0, 0, 0, 0, 0, 0, 0, 1).due(8, "bound").due(72, "improve", 1);
    }

    private static void improveRounds() {
        Desk one = Desk.busy();
        Desk all = Desk.busy();
        String last = "";
        for (int round = 0; round < 40; round++) {
            last = one.call("improve", 1);
        }
        all.due(last, "improve", 40).due(one.call("count", 2), "count", 2);
        for (int hour = 0; hour < 4; hour++) {
            all.due(one.call("priceOf", hour), "priceOf", hour);
        }
        new Desk(1).demands(1).due(64, "improve", 1).due(64 * 40 + 64, "improve", 40);
    }

    private static void improveChangesPrices() {
        Desk desk = new Desk(2).demands(1, 1).prices(5, -5).due(128, "improve", 1);
        desk.due(69, "priceOf", 0).due(59, "priceOf", 1).due(128, "bound");
    }

    private static void improveBest() {
        Desk desk = Desk.busy().due(206, "bound").due(501, "improve", 1).due(366, "bound");
        desk.due(501, "improve", 3).due(500, "bound").due(507, "improve", 1).due(507, "bound");
    }

    private static void improveRange() {
        Desk.busy().range(Desk.ARGUMENT, 0, 1, 40, "improve", 1);
        new Desk(1).range(Desk.ARGUMENT, 0, 1, 40, "improve", 1);
    }

    private static void keepPlaces() {
        Desk desk = sets(2, 1);
        for (int place = 0; place <= 3; place++) {
            desk.tell(0, 60 + place, place).due(true, "keep", place);
        }
        desk.tell(0, 9, 9);
        for (int place = 3; place >= 0; place--) {
            desk.due(true, "take", place).row(0, 60 + place, place);
        }
        Desk whole = sets(8, 3);
        for (int set = 0; set < 3; set++) {
            whole.tell(set, set, 7, 6, 5, 4, 3, 2, 61 + set);
        }
        whole.due(true, "keep", 3).due(0, "plan").row(2, 0, 0, 0, 0, 0, 0, 0, 0);
        whole.due(true, "take", 3);
        for (int set = 0; set < 3; set++) {
            whole.row(set, set, 7, 6, 5, 4, 3, 2, 61 + set);
        }
    }

    private static void keepInPlace() {
        Desk desk = sets(2, 1).tell(0, 1, 2).due(true, "keep", 0).due(true, "keep", 3);
        desk.tell(0, 3, 4).due(true, "keep", 0).due(2, "count", 3).tell(0, 5, 6);
        desk.due(true, "take", 0).row(0, 3, 4).due(true, "take", 3).row(0, 1, 2);
    }

    private static void keepOfNone() {
        Desk.busy().range(Desk.FALSE, 0, 0, 3, "keep", 0);
        new Desk(1).range(Desk.FALSE, 0, 0, 3, "keep", 0);
    }

    private static void takeKept() {
        Desk desk = sets(2, 1).tell(0, 1, 2).due(true, "keep", 1).tell(0, 3, 4);
        desk.due(true, "take", 1).row(0, 1, 2).tell(0, 5, 6).due(true, "take", 1).row(0, 1, 2);
        desk.due(1, "count", 3).demands(10, 10).due(0, "plan").row(0, 10, 10);
        desk.due(true, "take", 1).row(0, 1, 2);
        Desk empty = new Desk(2).due(true, "keep", 0).unit(10, 13, 1, 1, 1).tell(0, 5, 6);
        empty.due(true, "take", 0).row(0, 0, 0);
    }

    private static void takeOfNone() {
        Desk desk = Desk.busy().takes("take", 1).takes("take", 2);
        for (int place : new int[] {0, 3, 4, -1, 257, 258, 65537, Integer.MIN_VALUE,
            Integer.MAX_VALUE}) {
            desk.refuses(Desk.FALSE, "take", place);
        }
        for (int place = 0; place <= 3; place++) {
            new Desk(1).refuses(Desk.FALSE, "take", place);
        }
        desk.due(true, "keep", 0).due(true, "keep", 3);
        desk.range(Desk.FALSE, 0, 0, 3, "take", 0);
    }

    private static void takeLaterSets() {
        Desk desk = sets(2, 1).tell(0, 1, 2).due(true, "keep", 0).unit(5, 8, 1, 1, 1);
        desk.tell(1, 3, 4).due(true, "keep", 1).unit(5, 8, 1, 1, 1).tell(2, 5, 6);
        desk.due(true, "take", 0).row(0, 1, 2).row(1, 0, 0).row(2, 0, 0).tell(2, 5, 6);
        desk.due(true, "take", 1).row(0, 1, 2).row(1, 3, 4).row(2, 0, 0);
    }

    private static void countSets() {
        for (int sets = 0; sets <= 3; sets++) {
            sets(1, sets).due(sets, "count", 0);
        }
    }

    private static void countHours() {
        for (int hours = 1; hours <= 8; hours++) {
            sets(hours, 2).due(hours, "count", 1);
        }
    }

    private static void countStep() {
        Desk desk = new Desk(1).due(64, "count", 2);
        for (int step = 32; step >= 1; step /= 2) {
            desk.due(0, "improve", 1).due(step, "count", 2).due(step, "count", 2);
        }
        desk.due(0, "improve", 1).due(1, "count", 2);
    }

    private static void countPlaces() {
        Desk desk = sets(1, 1).due(0, "count", 3);
        for (int place = 3; place >= 0; place--) {
            desk.due(true, "keep", place).due(4 - place, "count", 3);
            desk.due(true, "keep", place).due(4 - place, "count", 3);
            desk.due(true, "take", place).due(4 - place, "count", 3);
        }
        desk.refuses(Desk.FALSE, "keep", 4).due(4, "count", 3);
    }

    private static void countDemands() {
        Desk desk = new Desk(8);
        for (int hour = 0; hour < 8; hour++) {
            desk.due(true, "demand", hour, 200 - hour, 100 - hour);
        }
        for (int hour = 0; hour < 8; hour++) {
            desk.due(200 - hour, "count", 10 + hour).due(100 - hour, "count", 20 + hour);
        }
    }

    private static void countOfNoWhat() {
        Desk desk = Desk.busy();
        for (int what : new int[] {-1, 4, 5, 6, 7, 8, 9, 28, 29, 30, 31, 32, 33, 40, 100, 256, 266,
            65536, 65546, -10, -20, Integer.MAX_VALUE, Integer.MIN_VALUE, Integer.MIN_VALUE + 10,
            Integer.MIN_VALUE + 20}) {
            desk.due(-1, "count", what);
        }
    }

    private static void countOfNoHour() {
        for (int hours = 1; hours <= 8; hours++) {
            Desk desk = new Desk(hours);
            for (int hour = 0; hour < hours; hour++) {
                desk.due(true, "demand", hour, 7, 8);
            }
            for (int hour = 0; hour < 10; hour++) {
                desk.due(hour < hours ? 7 : -1, "count", 10 + hour);
                desk.due(hour < hours ? 8 : -1, "count", 20 + hour);
            }
        }
    }
}
