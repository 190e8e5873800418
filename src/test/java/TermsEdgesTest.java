/** The document's "Terms": each sentence that names a boundary case, by itself. */
public final class TermsEdgesTest {
    private static final int[] NO_SUCH = {-1, 3, 4, 256, Integer.MIN_VALUE, Integer.MAX_VALUE};

    public static void main(String[] args) {
        numbers();
        table();
        rules();
        costsAndOrder();
        prices();
        improving();
        refusals();
        Sentences.end();
    }

    private static void numbers() {
        Sentences.sentence("SETS 0, 1, 2 at most: a fourth is refused",
                TermsEdgesTest::threeSetsAtMost);
        Sentences.sentence("SETS 0, 1, 2 at most: none but those that were made are there",
                TermsEdgesTest::setsThatAreThere);
        Sentences.sentence("LOW .. (whole megawatts, 1 .. 60", TermsEdgesTest::lowRange);
        Sentences.sentence("HIGH .. (whole megawatts, 1 .. 60", TermsEdgesTest::highRange);
        Sentences.sentence("HIGH is LOW .. LOW + 3", TermsEdgesTest::highByLow);
        Sentences.sentence("UP .. (1 .. 3 hours)", TermsEdgesTest::upRange);
        Sentences.sentence(".. and DOWN (1 .. 3 hours)", TermsEdgesTest::downRange);
        Sentences.sentence("RAMP (1 .. 3)", TermsEdgesTest::rampRange);
        Sentences.sentence("COSTS: .. (each 0 .. 10000", TermsEdgesTest::costsRange);
        Sentences.sentence("COSTS: .. at first 0)", TermsEdgesTest::costsAtFirst);
        Sentences.sentence("COSTS: of an hour at LOW, and of the first, second, third megawatt"
                + " above it", TermsEdgesTest::costsOfMegawatts);
        Sentences.sentence("START COSTS .. (each 0 .. 10000", TermsEdgesTest::startsRange);
        Sentences.sentence("START COSTS .. at first 0)", TermsEdgesTest::startsAtFirst);
        Sentences.sentence("START COSTS behind 1, 2, 3 or more hours off",
                TermsEdgesTest::startsByHoursOff);
        Sentences.sentence("BEFORE hour 0 .. (at first: off for 3)", TermsEdgesTest::beforeAtFirst);
        Sentences.sentence("HOURS 0, 1, .. as many as told", TermsEdgesTest::hoursThatAreThere);
        Sentences.sentence("a DEMAND .. (0 .. 200", TermsEdgesTest::demandRange);
        Sentences.sentence("a RESERVE (0 .. 200", TermsEdgesTest::reserveRange);
        Sentences.sentence("a DEMAND and a RESERVE (.. at first 0)",
                TermsEdgesTest::demandsAtFirst);
    }

    private static void table() {
        Sentences.sentence("A TABLE tells an output 0 .. 63 for each set and hour",
                TermsEdgesTest::outputRange);
        Sentences.sentence("0 is OFF, all else ON", TermsEdgesTest::allElseIsOn);
    }

    private static void rules() {
        Sentences.sentence("1 a set that is ON has LOW .. HIGH", TermsEdgesTest::ruleOne);
        Sentences.sentence("1 .. alone", TermsEdgesTest::ruleOneAlone);
        Sentences.sentence("2 outputs together are the demand", TermsEdgesTest::ruleTwo);
        Sentences.sentence("2 .. of none, and of as many as there may be",
                TermsEdgesTest::ruleTwoOfNoneAndAll);
        Sentences.sentence("3 the HIGH of all that are ON together less the demand are the reserve"
                + " or more", TermsEdgesTest::ruleThree);
        Sentences.sentence("3 .. of none that is ON", TermsEdgesTest::ruleThreeOfNone);
        Sentences.sentence("4 a set goes from ON to OFF only behind UP hours ON or more",
                TermsEdgesTest::ruleFour);
        Sentences.sentence("4 .. the hours before count", TermsEdgesTest::ruleFourBefore);
        Sentences.sentence("4 .. alone", TermsEdgesTest::ruleFourAlone);
        Sentences.sentence("4 .. only a set that goes OFF", TermsEdgesTest::ruleFourAtTheEnd);
        Sentences.sentence("5 from OFF to ON only behind DOWN hours OFF or more",
                TermsEdgesTest::ruleFive);
        Sentences.sentence("5 .. (of both the hours before count)", TermsEdgesTest::ruleFiveBefore);
        Sentences.sentence("5 .. alone", TermsEdgesTest::ruleFiveAlone);
        Sentences.sentence("6 a set that is ON in an hour and the one ahead of it differs by RAMP"
                + " at most", TermsEdgesTest::ruleSix);
        Sentences.sentence("6 .. (the output before counts, too)", TermsEdgesTest::ruleSixBefore);
        Sentences.sentence("6 .. alone", TermsEdgesTest::ruleSixAlone);
        Sentences.sentence("6 .. only of a set that is ON in both", TermsEdgesTest::ruleSixOnOnly);
        Sentences.sentence("7 in the hour in which a set goes ON its output is LOW + RAMP at most",
                TermsEdgesTest::ruleSeven);
        Sentences.sentence("7 .. alone", TermsEdgesTest::ruleSevenAlone);
        Sentences.sentence("7 .. only in the hour in which it goes ON",
                TermsEdgesTest::ruleSevenThatHour);
    }

    private static void costsAndOrder() {
        Sentences.sentence("The COST of a plan: of each set and hour ON the hour's cost",
                TermsEdgesTest::costOfHours);
        Sentences.sentence("a start cost for each going ON, by the hours OFF behind it",
                TermsEdgesTest::costOfStarts);
        Sentences.sentence("a start cost .. (those before count)",
                TermsEdgesTest::costOfFirstStart);
        Sentences.sentence("Of plans the FIRST one: compared hour by hour",
                TermsEdgesTest::firstByHours);
        Sentences.sentence("Of plans the FIRST one: .. in each set by set",
                TermsEdgesTest::firstBySets);
        Sentences.sentence("Of plans the FIRST one: .. the one with the lesser output is ahead",
                TermsEdgesTest::firstByOutput);
    }

    private static void prices() {
        Sentences.sentence("PRICES are told for hours (-100000 .. 100000",
                TermsEdgesTest::priceRange);
        Sentences.sentence("PRICES .. at first 0)", TermsEdgesTest::pricesAtFirst);
        Sentences.sentence("ALONE a set plans by rules 1, 4 to 7: not by 2 and 3",
                TermsEdgesTest::aloneWithoutDemand);
        Sentences.sentence("ALONE .. so that its cost less price times output, of all hours, is"
                + " least", TermsEdgesTest::aloneLeast);
        Sentences.sentence("ALONE .. (of such the first one)", TermsEdgesTest::aloneFirst);
        Sentences.sentence("The BOUND: demand times price of all hours, and what all sets cost"
                + " alone", TermsEdgesTest::boundOfAll);
        Sentences.sentence("The BOUND: .. no plan costs less", TermsEdgesTest::noPlanCostsLess);
    }

    private static void improving() {
        Sentences.sentence("STEP is 64 .. behind each change", TermsEdgesTest::stepAfresh);
        Sentences.sentence("the BEST bound the present one, behind each change",
                TermsEdgesTest::bestAfresh);
        Sentences.sentence("behind each change .. by a call: also by one that tells what was",
                TermsEdgesTest::stepAfreshByTheSame);
        Sentences.sentence("behind each change of sets, hours or prices: of nothing else",
                TermsEdgesTest::stepStays);
        Sentences.sentence("where the outputs .. together are less than the demand, the price"
                + " becomes more by STEP", TermsEdgesTest::priceBecomesMore);
        Sentences.sentence("where they are more, less", TermsEdgesTest::priceBecomesLess);
        Sentences.sentence("neither less nor more: the price stays", TermsEdgesTest::priceStays);
        Sentences.sentence("(but not beyond what prices may be)", TermsEdgesTest::pricesEnds);
        Sentences.sentence("then, if the bound is above the best, it is that",
                TermsEdgesTest::boundAboveBest);
        Sentences.sentence("else STEP is halved", TermsEdgesTest::stepIsHalved);
        Sentences.sentence("(1 at least)", TermsEdgesTest::stepAtLeast);
    }

    private static void refusals() {
        Sentences.sentence("What throws .. changes nothing", TermsEdgesTest::throwsChangesNothing);
        Sentences.sentence("What .. answers false changes nothing",
                TermsEdgesTest::falseChangesNothing);
        Sentences.sentence("Of several exceptions the one told first is thrown: unit",
                TermsEdgesTest::firstExceptionOfUnit);
        Sentences.sentence("Of several exceptions the one told first is thrown: cost",
                TermsEdgesTest::firstExceptionOfCost);
        Sentences.sentence("NONE = -1: None",
                () -> Sentences.same("NONE", CommitDesk.NONE, -1));
        Sentences.sentence("An object is used for at most 512 calls: the last one answers as due",
                TermsEdgesTest::lastCall);
    }

    private static Desk sets(int hours, int sets) {
        Desk desk = new Desk(hours);
        for (int set = 0; set < sets; set++) {
            desk.unit(10, 13, 1, 1, 3);
        }
        return desk;
    }

    /** One set that is off and free to be told anything. */
    private static Desk one(int hours, int up, int down, int ramp) {
        return new Desk(hours).unit(10, 13, up, down, ramp);
    }

    private static void threeSetsAtMost() {
        Desk desk = new Desk(4);
        for (int set = 0; set < 3; set++) {
            desk.due(set, "count", 0).due(set, "unit", 10, 13, 1, 1, 3);
        }
        desk.refuses(Desk.STATE, "unit", 10, 13, 1, 1, 3).due(3, "count", 0);
        Desk.full().refuses(Desk.STATE, "unit", 10, 13, 1, 1, 3);
    }

    private static void setsThatAreThere() {
        for (int sets = 0; sets <= 3; sets++) {
            Desk desk = sets(2, sets);
            for (int set = 0; set < sets; set++) {
                desk.due(0, "alone", set).due(0, "lone", set, 1).due(0, "output", set, 1);
                desk.due(true, "costs", set, 1, 1, 1, 1).due(true, "starts", set, 1, 1, 1);
                desk.due(true, "before", set, 0, 1).due(true, "set", set, 1, 0);
            }
            noSuchSet(desk, sets);
            for (int set : NO_SUCH) {
                noSuchSet(desk, set);
            }
        }
    }

    private static void noSuchSet(Desk desk, int set) {
        desk.refuses(Desk.INDEX, "alone", set).refuses(Desk.INDEX, "lone", set, 0);
        desk.refuses(Desk.INDEX, "output", set, 0).refuses(Desk.FALSE, "set", set, 0, 0);
        desk.refuses(Desk.FALSE, "costs", set, 0, 0, 0, 0);
        desk.refuses(Desk.FALSE, "starts", set, 0, 0, 0).refuses(Desk.FALSE, "before", set, 0, 1);
    }

    private static void lowRange() {
        Desk desk = Desk.busy();
        desk.takes("unit", 1, 1, 1, 1, 1).takes("unit", 60, 60, 1, 1, 1);
        desk.refuses(Desk.ARGUMENT, "unit", 0, 0, 1, 1, 1);
        desk.refuses(Desk.ARGUMENT, "unit", 0, 1, 1, 1, 1);
        desk.refuses(Desk.ARGUMENT, "unit", -1, 1, 1, 1, 1);
        desk.refuses(Desk.ARGUMENT, "unit", 61, 61, 1, 1, 1);
        desk.refuses(Desk.ARGUMENT, "unit", 61, 60, 1, 1, 1);
        desk.range(Desk.ARGUMENT, 0, 57, 60, "unit", 60, 60, 1, 1, 1);
        new Desk(1).unit(1, 1, 1, 1, 1).demands(1).due(0, "plan").row(0, 1);
        new Desk(1).unit(60, 60, 1, 1, 1).demands(60).due(0, "plan").row(0, 60);
    }

    private static void highRange() {
        Desk desk = Desk.busy();
        desk.range(Desk.ARGUMENT, 1, 57, 60, "unit", 57, 60, 1, 1, 1);
        desk.range(Desk.ARGUMENT, 1, 58, 60, "unit", 58, 60, 1, 1, 1);
        desk.range(Desk.ARGUMENT, 1, 60, 60, "unit", 60, 60, 1, 1, 1);
        desk.refuses(Desk.ARGUMENT, "unit", 1, 0, 1, 1, 1);
        new Desk(1).unit(57, 60, 1, 1, 3).demands(60).due(0, "plan").row(0, 60);
    }

    private static void highByLow() {
        Desk desk = Desk.busy();
        for (int low : new int[] {1, 2, 30, 56}) {
            desk.range(Desk.ARGUMENT, 1, low, low + 3, "unit", low, low, 1, 1, 1);
        }
        int most = Integer.MAX_VALUE;
        desk.refuses(Desk.ARGUMENT, "unit", most, most, 1, 1, 1);
        desk.refuses(Desk.ARGUMENT, "unit", most, Integer.MIN_VALUE, 1, 1, 1);
        desk.refuses(Desk.ARGUMENT, "unit", most - 3, most, 1, 1, 1);
    }

    private static void upRange() {
        Desk.busy().range(Desk.ARGUMENT, 2, 1, 3, "unit", 20, 21, 1, 1, 1);
    }

    private static void downRange() {
        Desk.busy().range(Desk.ARGUMENT, 3, 1, 3, "unit", 20, 21, 1, 1, 1);
    }

    private static void rampRange() {
        Desk.busy().range(Desk.ARGUMENT, 4, 1, 3, "unit", 20, 21, 1, 1, 1);
    }

    private static void costsRange() {
        for (int place = 1; place <= 4; place++) {
            Desk.busy().range(Desk.FALSE, place, 0, 10000, "costs", 1, 5, 5, 5, 5);
            Desk.busy().range(Desk.FALSE, place, 0, 10000, "costs", 0, 0, 0, 0, 0);
            int[] most = {0, 0, 0, 0, 0};
            most[place] = 10000;
            Desk desk = one(1, 1, 1, 3).demands(13).due(true, "costs", most);
            desk.due(10000, "plan").due(10000, "cost", 2);
            most[place] = 0;
            desk.due(true, "costs", most).due(0, "plan").due(0, "cost", 2);
        }
    }

    private static void costsAtFirst() {
        Desk desk = sets(4, 3).demands(30, 31, 32, 39).due(0, "plan").due(0, "cost", 2);
        desk.prices(1, 1, 1, 1).due(-52, "alone", 2);
    }

    private static void costsOfMegawatts() {
        int[] paid = {1000, 1200, 1230, 1234};
        for (int above = 0; above <= 3; above++) {
            Desk desk = one(1, 1, 1, 3).due(true, "costs", 0, 1000, 200, 30, 4);
            desk.demands(10 + above).due(paid[above], "plan").due(paid[above], "cost", 2);
        }
        Desk narrow = new Desk(1).unit(10, 10, 1, 1, 3).due(true, "costs", 0, 7, 9, 9, 9);
        narrow.demands(10).due(7, "plan").due(7, "cost", 0);
    }

    private static void startsRange() {
        for (int place = 1; place <= 3; place++) {
            Desk.busy().range(Desk.FALSE, place, 0, 10000, "starts", 1, 5, 5, 5);
            Desk.busy().range(Desk.FALSE, place, 0, 10000, "starts", 0, 0, 0, 0);
            int[] most = {0, 0, 0, 0};
            most[place] = 10000;
            Desk desk = one(1, 1, 1, 3).demands(13).due(true, "before", 0, 0, place);
            desk.due(true, "starts", most).due(10000, "plan").due(10000, "cost", 1);
            most[place] = 0;
            desk.due(true, "starts", most).due(0, "plan").due(0, "cost", 1);
        }
    }

    private static void startsAtFirst() {
        for (int off : new int[] {1, 2, 3, 100}) {
            Desk desk = one(1, 1, 1, 3).demands(10).due(true, "before", 0, 0, off);
            desk.due(0, "plan").due(0, "cost", 1);
        }
    }

    private static void startsByHoursOff() {
        int[] off = {1, 2, 3, 4, 5, 99, 100};
        int[] paid = {7, 80, 900, 900, 900, 900, 900};
        for (int i = 0; i < off.length; i++) {
            Desk desk = one(1, 1, 1, 3).due(true, "starts", 0, 7, 80, 900).demands(10);
            desk.due(true, "before", 0, 0, off[i]).due(paid[i], "plan").due(paid[i], "cost", 1);
            desk.prices(1000).due(paid[i] - 13000, "alone", 0);
        }
    }

    private static void beforeAtFirst() {
        Desk desk = one(2, 1, 3, 1).due(true, "starts", 0, 1, 20, 300).demands(11, 11);
        desk.due(300, "plan").due(300, "cost", 1);
        desk.demands(12, 12).due(-1, "plan").tell(0, 12, 12).due(17, "verify");
        desk.demands(0, 0).tell(0, 0, 0).due(0, "verify").due(0, "cost", 0);
        Desk three = desk.again().due(true, "before", 0, 0, 3);
        three.due(64, "count", 2).demands(10, 0).due(300, "plan");
    }

    private static void hoursThatAreThere() {
        for (int hours = 1; hours <= 8; hours++) {
            Desk desk = sets(hours, 1).due(hours, "count", 1);
            for (int hour : new int[] {0, hours - 1}) {
                desk.due(true, "demand", hour, 1, 1).due(true, "price", hour, 1);
                desk.due(true, "set", 0, hour, 1).due(1, "output", 0, hour);
                desk.due(1, "priceOf", hour).due(1, "count", 10 + hour).due(1, "count", 20 + hour);
                desk.due(13, "lone", 0, hour).due(true, "price", hour, 0);
            }
            for (int hour : new int[] {-1, hours, 8, 63, Integer.MIN_VALUE, Integer.MAX_VALUE}) {
                desk.refuses(Desk.FALSE, "demand", hour, 0, 0);
                desk.refuses(Desk.FALSE, "price", hour, 0);
                desk.refuses(Desk.FALSE, "set", 0, hour, 0);
                desk.refuses(Desk.INDEX, "output", 0, hour).refuses(Desk.INDEX, "priceOf", hour);
                desk.refuses(Desk.INDEX, "lone", 0, hour);
            }
        }
    }

    private static void demandRange() {
        Desk.busy().range(Desk.FALSE, 1, 0, 200, "demand", 2, 5, 0);
        new Desk(1).due(true, "demand", 0, 200, 0).due(200, "count", 10).due(-1, "plan")
                .due(true, "demand", 0, 0, 0).due(0, "count", 10).due(0, "plan");
    }

    private static void reserveRange() {
        Desk.busy().range(Desk.FALSE, 2, 0, 200, "demand", 2, 17, 5);
        new Desk(1).due(true, "demand", 0, 0, 200).due(200, "count", 20).due(-1, "plan")
                .due(true, "demand", 0, 0, 0).due(0, "count", 20).due(0, "plan");
    }

    private static void demandsAtFirst() {
        Desk desk = new Desk(8);
        for (int hour = 0; hour < 8; hour++) {
            desk.due(0, "count", 10 + hour).due(0, "count", 20 + hour);
        }
        desk.due(0, "plan").due(0, "verify");
    }

    private static void outputRange() {
        Desk.busy().range(Desk.FALSE, 2, 0, 63, "set", 1, 3, 5);
        Desk desk = sets(8, 3);
        for (int set = 0; set < 3; set++) {
            for (int hour = 0; hour < 8; hour++) {
                desk.due(true, "set", set, hour, 63 - 8 * set - hour);
            }
        }
        desk.row(0, 63, 62, 61, 60, 59, 58, 57, 56).row(1, 55, 54, 53, 52, 51, 50, 49, 48);
        desk.row(2, 47, 46, 45, 44, 43, 42, 41, 40);
        desk.tell(1, 0, 0, 0, 0, 0, 0, 0, 0).row(1, 0, 0, 0, 0, 0, 0, 0, 0);
        desk.row(0, 63, 62, 61, 60, 59, 58, 57, 56).row(2, 47, 46, 45, 44, 43, 42, 41, 40);
    }

    private static void allElseIsOn() {
        for (int output : new int[] {1, 2, 9, 14, 62, 63}) {
            Desk desk = one(1, 1, 1, 3).tell(0, output).due(11, "verify");
            desk.due(-1, "redispatch").demands(10).due(0, "redispatch").row(0, 10);
        }
        Desk off = one(1, 1, 1, 3).tell(0, 63).tell(0, 0).due(0, "verify").due(0, "redispatch");
        off.demands(10).due(-1, "redispatch").row(0, 0);
    }

    private static void ruleOne() {
        int[] outputs = {1, 9, 10, 13, 14, 63};
        for (int output : outputs) {
            boolean holds = output >= 10 && output <= 13;
            for (int set = 0; set < 3; set++) {
                Desk desk = sets(1, 3).demands(output).tell(set, output);
                desk.due(holds ? 0 : 11, "verify").due(holds ? 0 : -1, "plan");
            }
        }
        Desk single = new Desk(1).unit(10, 10, 1, 1, 3).demands(11).tell(0, 11);
        single.due(11, "verify").due(-1, "plan").demands(10).tell(0, 10).due(0, "verify");
    }

    private static void ruleOneAlone() {
        Desk desk = new Desk(1).unit(10, 12, 1, 1, 3).prices(100000).lone(0, 12);
        desk.due(true, "before", 0, 12, 1).lone(0, 12);
        Desk must = new Desk(1).unit(10, 12, 3, 1, 3).due(true, "before", 0, 12, 1);
        must.prices(-100000).lone(0, 10).due(1000000, "alone", 0);
    }

    private static void ruleTwo() {
        Desk desk = sets(1, 2).tell(0, 11).tell(1, 12);
        desk.demands(22).due(12, "verify").demands(23).due(0, "verify");
        desk.demands(24).due(12, "verify");
        Desk planned = sets(1, 2).demands(19).due(-1, "plan").demands(20).due(0, "plan");
        planned.demands(26).due(0, "plan").demands(27).due(-1, "plan");
    }

    private static void ruleTwoOfNoneAndAll() {
        Desk none = new Desk(1).due(0, "verify").due(0, "plan").demands(1);
        none.due(12, "verify").due(-1, "plan");
        Desk all = new Desk(1).unit(57, 60, 1, 1, 3).unit(57, 60, 1, 1, 3).unit(57, 60, 1, 1, 3);
        all.demands(180).due(0, "plan").row(0, 60).row(1, 60).row(2, 60).due(0, "verify");
        all.demands(181).due(12, "verify").due(-1, "plan").demands(200).due(-1, "plan");
        all.demands(179).due(12, "verify").due(0, "plan").row(0, 59).row(1, 60).row(2, 60);
    }

    private static void ruleThree() {
        Desk desk = new Desk(1).unit(10, 13, 1, 1, 3).unit(5, 8, 1, 1, 3).unit(60, 60, 1, 1, 3);
        desk.tell(0, 11).tell(1, 6);
        desk.due(true, "demand", 0, 17, 4).due(0, "verify").due(0, "plan");
        desk.due(true, "demand", 0, 17, 3).due(0, "verify").due(0, "plan");
        desk.due(true, "demand", 0, 17, 5).due(13, "verify").due(-1, "plan");
        desk.due(true, "demand", 0, 17, 200).due(13, "verify").due(-1, "plan");
        Desk second = new Desk(1).unit(10, 13, 1, 1, 3).unit(3, 4, 1, 1, 3);
        second.due(true, "costs", 1, 500, 0, 0, 0).due(true, "demand", 0, 13, 0).due(0, "plan");
        second.due(true, "demand", 0, 13, 1).due(500, "plan").row(0, 10).row(1, 3);
        second.due(true, "demand", 0, 13, 4).due(500, "plan");
        second.due(true, "demand", 0, 13, 5).due(-1, "plan");
        Desk started = one(1, 1, 1, 1).due(true, "demand", 0, 10, 3).due(0, "plan").row(0, 10);
        started.due(true, "demand", 0, 11, 3).due(-1, "plan");
    }

    private static void ruleThreeOfNone() {
        Desk desk = sets(1, 3).due(true, "demand", 0, 0, 0).due(0, "verify").due(0, "plan");
        desk.due(true, "demand", 0, 0, 1).due(13, "verify").due(-1, "plan");
        new Desk(1).due(true, "demand", 0, 0, 1).due(13, "verify").due(-1, "plan");
    }

    /** On for so many hours from hour 0 on, then off. */
    private static void ruleFour() {
        for (int up = 1; up <= 3; up++) {
            for (int on = 1; on <= 4; on++) {
                Desk desk = one(5, up, 1, 3);
                for (int hour = 0; hour < on; hour++) {
                    desk.due(true, "demand", hour, 10, 0).due(true, "set", 0, hour, 10);
                }
                boolean holds = on >= up;
                desk.due(holds ? 0 : 10 * on + 14, "verify");
                desk.due(holds ? 0 : -1, "redispatch").due(holds ? 0 : -1, "plan");
            }
        }
    }

    private static void ruleFourBefore() {
        for (int up = 1; up <= 3; up++) {
            for (int on : new int[] {1, 2, 3, 4, 100}) {
                Desk desk = one(2, up, 1, 3).due(true, "before", 0, 10, on);
                desk.due(on >= up ? 0 : 14, "verify").due(on >= up ? 0 : -1, "plan");
                desk.tell(0, 10, 0).demands(10, 0);
                desk.due(on + 1 >= up ? 0 : 24, "verify").due(on + 1 >= up ? 0 : -1, "plan");
            }
        }
        Desk off = one(2, 2, 1, 3).due(true, "before", 0, 0, 100).tell(0, 10, 0).demands(10, 0);
        off.due(24, "verify").due(-1, "plan");
    }

    private static void ruleFourAlone() {
        for (int up = 1; up <= 3; up++) {
            Desk desk = one(4, up, 1, 3).prices(-5, -5, -5, -5).due(true, "before", 0, 10, 1);
            desk.lone(0, up > 1 ? 10 : 0, up > 2 ? 10 : 0, 0, 0).due(50 * (up - 1), "alone", 0);
            desk.due(true, "before", 0, 10, up).lone(0, 0, 0, 0, 0).due(0, "alone", 0);
        }
    }

    private static void ruleFourAtTheEnd() {
        Desk desk = one(3, 3, 1, 3).tell(0, 0, 0, 10).demands(0, 0, 10);
        desk.due(0, "verify").due(0, "plan").prices(0, 0, 1).lone(0, 0, 0, 13);
        Desk off = one(3, 3, 1, 3).due(0, "verify").due(0, "plan");
        off.due(true, "before", 0, 0, 1).due(0, "verify").due(0, "plan");
    }

    /** On in hour 0, off for so many hours, then on again. */
    private static void ruleFive() {
        for (int down = 1; down <= 3; down++) {
            for (int off = 1; off <= 4; off++) {
                Desk desk = one(6, 1, down, 3).tell(0, 10).demands(10);
                desk.due(true, "set", 0, off + 1, 10).due(true, "demand", off + 1, 10, 0);
                boolean holds = off >= down;
                desk.due(holds ? 0 : 10 * off + 25, "verify");
                desk.due(holds ? 0 : -1, "redispatch").due(holds ? 0 : -1, "plan");
            }
        }
    }

    private static void ruleFiveBefore() {
        for (int down = 1; down <= 3; down++) {
            for (int off : new int[] {1, 2, 3, 4, 100}) {
                Desk desk = one(2, 1, down, 3).due(true, "before", 0, 0, off);
                desk.tell(0, 10, 10).demands(10, 10);
                desk.due(off >= down ? 0 : 15, "verify").due(off >= down ? 0 : -1, "plan");
                desk.tell(0, 0, 10).demands(0, 10);
                desk.due(off + 1 >= down ? 0 : 25, "verify").due(off + 1 >= down ? 0 : -1, "plan");
            }
        }
        Desk on = one(2, 1, 2, 3).due(true, "before", 0, 10, 100).tell(0, 0, 10).demands(0, 10);
        on.due(25, "verify").due(-1, "plan");
    }

    private static void ruleFiveAlone() {
        for (int down = 1; down <= 3; down++) {
            Desk desk = one(4, 1, down, 3).prices(5, 5, 5, 5).due(true, "before", 0, 0, 1);
            desk.lone(0, down > 1 ? 0 : 13, down > 2 ? 0 : 13, 13, 13);
            desk.due(-65 * (5 - down), "alone", 0);
            desk.due(true, "before", 0, 0, down).lone(0, 13, 13, 13, 13);
        }
    }

    private static void ruleSix() {
        for (int ramp = 1; ramp <= 3; ramp++) {
            for (int by = 0; by <= 3; by++) {
                boolean holds = by <= ramp;
                Desk up = one(2, 1, 1, ramp).tell(0, 10, 10 + by).demands(10, 10 + by);
                up.due(holds ? 0 : 26, "verify").due(holds ? 0 : -1, "plan");
                Desk down = one(4, 1, 1, ramp).tell(0, 11, 12, 13, 13 - by);
                down.demands(11, 12, 13, 13 - by);
                down.due(holds ? 0 : 46, "verify").due(holds ? 0 : -1, "plan");
            }
        }
    }

    private static void ruleSixBefore() {
        for (int ramp = 1; ramp <= 3; ramp++) {
            for (int by = 0; by <= 3; by++) {
                boolean holds = by <= ramp;
                Desk up = one(1, 1, 1, ramp).due(true, "before", 0, 10, 1);
                up.tell(0, 10 + by).demands(10 + by);
                up.due(holds ? 0 : 16, "verify").due(holds ? 0 : -1, "plan");
                Desk down = one(1, 1, 1, ramp).due(true, "before", 0, 13, 1);
                down.tell(0, 13 - by).demands(13 - by);
                down.due(holds ? 0 : 16, "verify").due(holds ? 0 : -1, "plan");
            }
        }
    }

    private static void ruleSixAlone() {
        for (int ramp = 1; ramp <= 3; ramp++) {
            Desk up = one(2, 1, 1, ramp).due(true, "before", 0, 10, 1).prices(5, 5);
            up.lone(0, 10 + ramp, Math.min(13, 10 + 2 * ramp));
            Desk down = one(2, 3, 1, ramp).due(true, "before", 0, 13, 1).prices(-5, -5);
            down.lone(0, 13 - ramp, Math.max(10, 13 - 2 * ramp));
        }
    }

    private static void ruleSixOnOnly() {
        Desk off = one(2, 1, 1, 1).due(true, "before", 0, 13, 1).due(0, "verify").due(0, "plan");
        off.prices(-5, -5).lone(0, 0, 0);
        Desk between = one(3, 1, 1, 1).due(true, "before", 0, 13, 1);
        between.tell(0, 13, 0, 10).demands(13, 0, 10).due(0, "verify").due(0, "plan");
    }

    private static void ruleSeven() {
        for (int ramp = 1; ramp <= 3; ramp++) {
            for (int above = 0; above <= 3; above++) {
                boolean holds = above <= ramp;
                int output = 10 + above;
                Desk first = one(1, 1, 1, ramp).tell(0, output).demands(output);
                first.due(holds ? 0 : 17, "verify").due(holds ? 0 : -1, "plan");
                Desk later = one(3, 1, 1, ramp).tell(0, 10, 0, output).demands(10, 0, output);
                later.due(holds ? 0 : 37, "verify").due(holds ? 0 : -1, "plan");
            }
        }
        Desk narrow = new Desk(1).unit(10, 11, 1, 1, 3).tell(0, 12).demands(12);
        narrow.due(11, "verify").due(-1, "plan");
    }

    private static void ruleSevenAlone() {
        for (int ramp = 1; ramp <= 3; ramp++) {
            one(1, 1, 1, ramp).prices(5).lone(0, 10 + ramp);
        }
    }

    private static void ruleSevenThatHour() {
        Desk on = one(2, 1, 1, 1).due(true, "before", 0, 13, 1).tell(0, 13, 13).demands(13, 13);
        on.due(0, "verify").due(0, "plan").prices(5, 5).lone(0, 13, 13);
        Desk behind = one(2, 1, 1, 1).tell(0, 11, 12).demands(11, 12);
        behind.due(0, "verify").due(0, "plan").prices(5, 5).lone(0, 11, 12);
    }

    private static void costOfHours() {
        Desk desk = sets(8, 3).due(0, "cost", 2);
        for (int set = 0; set < 3; set++) {
            desk.due(true, "costs", set, 10000, 10000, 10000, 10000);
        }
        desk.demands(39, 39, 39, 39, 39, 39, 39, 39).due(960000, "plan").due(960000, "cost", 2);
        desk.due(true, "costs", 1, 1, 2, 3, 4).due(640080, "cost", 2).due(640080, "cost", 0);
        desk.demands(0, 0, 0, 0, 0, 0, 0, 0).due(0, "plan").due(0, "cost", 2);
    }

    private static void costOfStarts() {
        Desk desk = one(8, 1, 1, 3).due(true, "starts", 0, 7, 80, 900);
        int[] demands = {10, 0, 10, 0, 0, 10, 10, 0};
        desk.demands(demands).due(987, "plan").due(987, "cost", 1).due(0, "cost", 2);
        int[] later = {10, 0, 0, 0, 10, 0, 0, 0};
        desk.demands(later).due(1800, "plan").due(1800, "cost", 1);
        int[] each = {10, 0, 10, 0, 10, 0, 10, 0};
        desk.demands(each).due(921, "plan").due(921, "cost", 1).due(921, "cost", 0);
        int[] none = {0, 0, 0, 0, 0, 0, 0, 0};
        desk.demands(none).due(0, "plan").due(0, "cost", 1);
    }

    private static void costOfFirstStart() {
        int[][] paid = {{7, 80, 900, 900}, {80, 900, 900, 900}, {900, 900, 900, 900}};
        for (int off = 1; off <= 3; off++) {
            for (int hour = 0; hour < 4; hour++) {
                Desk desk = one(4, 1, 1, 3).due(true, "starts", 0, 7, 80, 900);
                desk.due(true, "before", 0, 0, off).due(true, "demand", hour, 10, 0);
                int due = paid[off - 1][hour];
                desk.due(due, "plan").due(due, "cost", 1);
            }
        }
        Desk on = one(4, 1, 1, 3).due(true, "starts", 0, 7, 80, 900).demands(10, 10, 0, 10);
        on.due(true, "before", 0, 10, 1).due(7, "plan").due(7, "cost", 1);
        on.demands(0, 0, 10, 10).due(80, "plan").due(80, "cost", 1);
    }

    /** Of two plans for 2 one has set 1 lesser in hour 0, the other set 0 in hour 1. */
    private static void firstByHours() {
        Desk desk = new Desk(2).unit(10, 10, 1, 2, 1).unit(10, 10, 2, 1, 1).unit(10, 10, 1, 1, 1);
        desk.due(true, "before", 0, 0, 1).due(true, "costs", 1, 1, 0, 0, 0).demands(10, 10);
        desk.due(true, "costs", 2, 1, 0, 0, 0).due(true, "starts", 2, 1, 1, 1).due(2, "plan");
        desk.row(0, 0, 10).row(1, 0, 0).row(2, 10, 0);
        desk.due(true, "starts", 2, 2, 2, 2).due(2, "plan");
        desk.row(0, 0, 0).row(1, 10, 10).row(2, 0, 0);
    }

    private static void firstBySets() {
        Desk desk = sets(1, 3).demands(11).due(0, "plan").row(0, 0).row(1, 0).row(2, 11);
        desk.demands(21).due(0, "plan").row(0, 0).row(1, 10).row(2, 11);
        desk.demands(34).due(0, "plan").row(0, 10).row(1, 11).row(2, 13);
        desk.due(true, "costs", 2, 1, 0, 0, 0).demands(21);
        desk.due(0, "plan").row(0, 10).row(1, 11).row(2, 0);
    }

    private static void firstByOutput() {
        Desk desk = sets(1, 2).demands(23).due(0, "plan").row(0, 10).row(1, 13);
        desk.demands(13).due(0, "plan").row(0, 0).row(1, 13);
        desk.demands(23).tell(0, 13).tell(1, 10).due(0, "redispatch").row(0, 10).row(1, 13);
    }

    private static void priceRange() {
        Desk.busy().range(Desk.FALSE, 1, -100000, 100000, "price", 2, 5);
        Desk desk = new Desk(1).demands(200).prices(100000).due(100000, "priceOf", 0);
        desk.due(20000000, "bound").prices(-100000).due(-100000, "priceOf", 0);
        desk.due(-20000000, "bound");
    }

    private static void pricesAtFirst() {
        Desk desk = sets(8, 1);
        for (int hour = 0; hour < 8; hour++) {
            desk.due(true, "demand", hour, 200, 0).due(0, "priceOf", hour);
        }
        desk.due(0, "bound").due(0, "alone", 0);
    }

    private static void aloneWithoutDemand() {
        Desk desk = one(2, 1, 1, 3).prices(5, 5).lone(0, 13, 13).due(-130, "alone", 0);
        desk.due(true, "demand", 0, 200, 200).due(true, "demand", 1, 0, 200);
        desk.lone(0, 13, 13).due(-130, "alone", 0);
        desk.prices(-5, -5).lone(0, 0, 0).due(0, "alone", 0);
    }

    private static void aloneLeast() {
        Desk desk = one(2, 1, 1, 3).due(true, "costs", 0, 100, 20, 30, 40);
        desk.due(true, "starts", 0, 0, 0, 50).prices(15, 0).due(0, "alone", 0).lone(0, 0, 0);
        desk.prices(16, 0).due(-10, "alone", 0).lone(0, 10, 0);
        desk.prices(21, 0).due(-61, "alone", 0).lone(0, 11, 0);
        desk.prices(100000, 100000).due(-2600000 + 430, "alone", 0).lone(0, 13, 13);
        desk.prices(-100000, -100000).due(0, "alone", 0).lone(0, 0, 0);
        Desk most = new Desk(8).unit(60, 60, 1, 1, 1);
        for (int hour = 0; hour < 8; hour++) {
            most.due(true, "price", hour, 100000);
        }
        most.due(-48000000, "alone", 0);
    }

    private static void aloneFirst() {
        Desk desk = one(2, 1, 1, 3).due(true, "costs", 0, 50, 5, 5, 5).prices(5, 5);
        desk.due(0, "alone", 0).lone(0, 0, 0);
        Desk on = one(3, 2, 1, 3).due(true, "costs", 0, 50, 5, 5, 5).prices(5, 5, 5);
        on.due(true, "before", 0, 12, 1).due(0, "alone", 0).lone(0, 10, 0, 0);
        Desk hours = one(2, 1, 1, 1).due(true, "before", 0, 0, 2);
        hours.due(true, "starts", 0, 0, 30, 20).due(true, "costs", 0, 100, 100, 100, 100);
        hours.prices(11, 13).due(-10, "alone", 0).lone(0, 0, 10);
        hours.prices(12, 13).due(-20, "alone", 0).lone(0, 10, 10);
    }

    private static void boundOfAll() {
        Desk desk = sets(8, 3);
        for (int hour = 0; hour < 8; hour++) {
            desk.due(true, "demand", hour, 200, 0).due(true, "price", hour, 100000);
        }
        desk.due(160000000 - 3 * 10400000, "bound");
        for (int hour = 0; hour < 8; hour++) {
            desk.due(true, "price", hour, -100000);
        }
        desk.due(-160000000, "bound").due(true, "demand", 7, 0, 0).due(-140000000, "bound");
    }

    private static void noPlanCostsLess() {
        Desk desk = new Desk(1).unit(10, 10, 1, 1, 1).due(true, "costs", 0, 1000, 0, 0, 0);
        desk.demands(10).due(1000, "plan").due(0, "bound").prices(99).due(990, "bound");
        desk.prices(100).due(1000, "bound").prices(101).due(1000, "bound");
        desk.prices(100000).due(1000, "bound").due(1000, "improve", 40);
    }

    /** STEP is 1, prices are the best ones, and any change makes the bound a lesser one. */
    private static Desk improved() {
        Desk desk = new Desk(2).unit(10, 10, 1, 1, 1).due(true, "costs", 0, 1000, 0, 0, 0);
        desk.due(true, "starts", 0, 0, 0, 500).demands(10, 10).prices(140, 140);
        return desk.due(2500, "improve", 40).due(1, "count", 2).due(2500, "bound");
    }

    private static void stepAfresh() {
        new Desk(1).due(64, "count", 2);
        improved().due(true, "price", 1, 139).due(64, "count", 2);
        improved().due(true, "costs", 0, 999, 0, 0, 0).due(64, "count", 2);
        improved().due(true, "costs", 0, 1000, 0, 0, 1).due(64, "count", 2);
        improved().due(true, "starts", 0, 0, 0, 499).due(64, "count", 2);
        improved().due(true, "starts", 0, 1, 0, 500).due(64, "count", 2);
        improved().due(true, "before", 0, 10, 1).due(64, "count", 2);
        improved().due(true, "before", 0, 0, 1).due(64, "count", 2);
        improved().due(true, "demand", 1, 9, 0).due(64, "count", 2);
        improved().due(true, "demand", 1, 10, 1).due(64, "count", 2);
        improved().due(1, "unit", 1, 1, 1, 1, 1).due(64, "count", 2);
    }

    /** So it is said of price alone; README.md tells that it is read so of all the others, too. */
    private static void stepAfreshByTheSame() {
        improved().due(true, "costs", 0, 1000, 0, 0, 0).due(64, "count", 2);
        improved().due(true, "starts", 0, 0, 0, 500).due(64, "count", 2);
        improved().due(true, "before", 0, 0, 3).due(64, "count", 2);
        improved().due(true, "demand", 1, 10, 0).due(64, "count", 2);
        Desk desk = improved();
        desk.due(true, "price", 1, desk.number("priceOf", 1)).due(64, "count", 2);
    }

    /** A round that helps nothing answers the BEST that the change left. */
    private static void bestAfresh() {
        new Desk(1).due(0, "improve", 1).due(32, "count", 2);
        Desk negative = new Desk(1).unit(10, 10, 1, 1, 1).demands(5).prices(1).due(-5, "bound");
        negative.due(-5, "improve", 1).due(-63, "priceOf", 0).due(-315, "bound");
        improved().prices(0, 0).due(1280, "improve", 1).due(64, "count", 2);
        improved().due(true, "costs", 0, 10, 0, 0, 0).due(520, "improve", 1);
        improved().due(true, "starts", 0, 0, 0, 7).due(2007, "improve", 1);
        improved().due(true, "before", 0, 10, 1).due(2000, "improve", 1);
        improved().due(true, "demand", 1, 0, 0).due(1100, "bound").due(1400, "improve", 1);
        improved().due(1, "unit", 10, 10, 1, 1, 1).due(-300, "bound").due(0, "improve", 1);
    }

    private static void stepStays() {
        Desk desk = Desk.busy().due(16, "count", 2);
        String[] without = {"plan", "redispatch", "verify", "bound"};
        for (String name : without) {
            desk.call(name);
        }
        desk.due(true, "set", 0, 0, 12).due(true, "keep", 0).due(true, "take", 2);
        for (int what = 0; what < 3; what++) {
            desk.due(Desk.STATE, "cost", what);
        }
        desk.call("alone", 0);
        desk.call("lone", 1, 1);
        desk.call("priceOf", 1);
        desk.due(16, "count", 2).due(501, "improve", 1).due(8, "count", 2);
    }

    private static void priceBecomesMore() {
        Desk desk = new Desk(2).demands(1, 0).due(64, "improve", 1);
        desk.due(64, "priceOf", 0).due(0, "priceOf", 1);
        Desk near = one(1, 1, 1, 3).due(true, "costs", 0, 10, 5, 5, 5).demands(11).prices(5);
        near.lone(0, 10).due(15, "bound").due(15, "improve", 1).due(69, "priceOf", 0);
    }

    private static void priceBecomesLess() {
        Desk desk = one(2, 1, 1, 3).prices(5, -5).lone(0, 13, 0).due(-65, "bound");
        desk.due(0, "improve", 1).due(-59, "priceOf", 0).due(-5, "priceOf", 1);
        Desk near = one(1, 1, 1, 3).due(true, "costs", 0, 10, 5, 5, 50).demands(11).prices(6);
        near.lone(0, 12).due(14, "bound").due(14, "improve", 1).due(-58, "priceOf", 0);
    }

    private static void priceStays() {
        Desk desk = one(1, 1, 1, 3).due(true, "costs", 0, 10, 5, 5, 5).demands(10).prices(5);
        desk.lone(0, 10).due(10, "improve", 40).due(5, "priceOf", 0).due(1, "count", 2);
        new Desk(1).prices(77).due(0, "improve", 40).due(77, "priceOf", 0);
    }

    private static void pricesEnds() {
        int[] from = {99935, 99936, 99937, 99999, 100000};
        int[] to = {99999, 100000, 100000, 100000, 100000};
        for (int i = 0; i < from.length; i++) {
            Desk up = new Desk(1).demands(1).prices(from[i]).due(to[i], "improve", 1);
            up.due(to[i], "priceOf", 0);
            Desk down = new Desk(1).unit(10, 10, 3, 1, 1).due(true, "before", 0, 10, 1);
            down.prices(-from[i]).due(10 * to[i], "improve", 1).due(-to[i], "priceOf", 0);
        }
        Desk both = new Desk(2).demands(1, 1).prices(99990, 0).due(100064, "improve", 1);
        both.due(100000, "priceOf", 0).due(64, "priceOf", 1);
    }

    private static void boundAboveBest() {
        Desk desk = new Desk(1).demands(1).due(64, "improve", 1).due(64, "count", 2);
        desk.due(128, "improve", 1).due(64, "count", 2).due(128, "bound");
        Desk byOne = new Desk(1).demands(1).prices(99999).due(100000, "improve", 1);
        byOne.due(64, "count", 2);
    }

    private static void stepIsHalved() {
        Desk same = new Desk(1).demands(1).prices(100000).due(100000, "improve", 1);
        same.due(32, "count", 2).due(100000, "improve", 1).due(16, "count", 2);
        Desk less = one(1, 1, 1, 3).due(true, "costs", 0, 100, 10, 10, 10).demands(11).prices(10);
        less.due(110, "bound").due(110, "improve", 1).due(32, "count", 2);
    }

    private static void stepAtLeast() {
        Desk desk = new Desk(1);
        int[] steps = {32, 16, 8, 4, 2, 1, 1, 1};
        for (int step : steps) {
            desk.due(0, "improve", 1).due(step, "count", 2);
        }
        desk.due(0, "improve", 40).due(1, "count", 2);
    }

    private static void throwsChangesNothing() {
        Desk desk = Desk.busy();
        desk.refuses(Desk.ARGUMENT, "unit", 20, 24, 1, 1, 1);
        desk.refuses(Desk.ARGUMENT, "unit", 20, 23, 1, 1, 4);
        desk.refuses(Desk.INDEX, "output", 2, 0).refuses(Desk.INDEX, "output", 0, 4);
        desk.refuses(Desk.INDEX, "lone", 2, 0).refuses(Desk.INDEX, "lone", 0, 4);
        desk.refuses(Desk.INDEX, "alone", 2).refuses(Desk.INDEX, "priceOf", 4);
        desk.refuses(Desk.ARGUMENT, "cost", 3).refuses(Desk.ARGUMENT, "cost", -1);
        desk.refuses(Desk.ARGUMENT, "improve", 0).refuses(Desk.ARGUMENT, "improve", 41);
        Desk noPlan = desk.again().due(true, "set", 0, 1, 63).refuses(Desk.STATE, "cost", 0);
        noPlan.refuses(Desk.STATE, "cost", 1).refuses(Desk.STATE, "cost", 2);
        Desk.full().refuses(Desk.STATE, "unit", 30, 33, 2, 2, 2);
    }

    private static void falseChangesNothing() {
        Desk desk = Desk.busy();
        desk.refuses(Desk.FALSE, "costs", 0, 1, 2, 3, 10001);
        desk.refuses(Desk.FALSE, "costs", 1, -1, 2, 3, 4);
        desk.refuses(Desk.FALSE, "costs", 2, 1, 2, 3, 4);
        desk.refuses(Desk.FALSE, "starts", 0, 1, 2, 10001);
        desk.refuses(Desk.FALSE, "starts", 1, -1, 2, 3);
        desk.refuses(Desk.FALSE, "starts", 2, 1, 2, 3);
        desk.refuses(Desk.FALSE, "before", 0, 12, 101).refuses(Desk.FALSE, "before", 0, 14, 2);
        desk.refuses(Desk.FALSE, "before", 2, 0, 2).refuses(Desk.FALSE, "before", 1, 0, 0);
        desk.refuses(Desk.FALSE, "demand", 0, 10, 201).refuses(Desk.FALSE, "demand", 0, 201, 0);
        desk.refuses(Desk.FALSE, "demand", 4, 10, 0).refuses(Desk.FALSE, "set", 0, 4, 1);
        desk.refuses(Desk.FALSE, "set", 0, 0, 64).refuses(Desk.FALSE, "set", 2, 0, 1);
        desk.refuses(Desk.FALSE, "price", 4, 7).refuses(Desk.FALSE, "price", 0, 100001);
        desk.refuses(Desk.FALSE, "keep", 4).refuses(Desk.FALSE, "keep", -1);
        desk.refuses(Desk.FALSE, "take", 0).refuses(Desk.FALSE, "take", 3);
        desk.refuses(Desk.FALSE, "take", 4).refuses(Desk.FALSE, "take", -1);
    }

    private static void firstExceptionOfUnit() {
        Desk full = Desk.full();
        full.refuses(Desk.ARGUMENT, "unit", 0, 1, 1, 1, 1);
        full.refuses(Desk.ARGUMENT, "unit", 10, 14, 1, 1, 1);
        full.refuses(Desk.ARGUMENT, "unit", 10, 13, 4, 1, 1);
        full.refuses(Desk.ARGUMENT, "unit", 10, 13, 1, 0, 1);
        full.refuses(Desk.ARGUMENT, "unit", 10, 13, 1, 1, 4);
        full.refuses(Desk.STATE, "unit", 10, 13, 1, 1, 1);
    }

    private static void firstExceptionOfCost() {
        Desk desk = sets(2, 1).tell(0, 63).due(11, "verify");
        desk.refuses(Desk.ARGUMENT, "cost", 3).refuses(Desk.ARGUMENT, "cost", -1);
        desk.refuses(Desk.STATE, "cost", 0);
    }

    /** One desk is called as often as may be, another just told the same in the end. */
    private static void lastCall() {
        Desk old = Desk.busy();
        while (old.calls() < 440) {
            old.call("price", old.calls() % 4, old.calls());
            old.call("improve", 40);
            old.call("set", old.calls() % 2, old.calls() % 4, old.calls() % 64);
            old.call("keep", old.calls() % 4);
            old.call("plan");
        }
        Desk young = Desk.busy().due(true, "keep", 0).due(true, "keep", 3);
        old.due(580, "plan");
        for (int place = 0; place < 4; place++) {
            old.due(true, "keep", place);
        }
        old.prices(12, 9, 11, 10).due(501, "improve", 2);
        while (old.calls() < 504) {
            old.due(young.call("bound"), "bound");
        }
        old.due(16, "count", 2).row(0, 11, 12, 12, 0).due(501, "improve", 1);
        old.due(8, "count", 2).due(580, "plan");
        Sentences.same("calls", old.calls(), 512);
    }
}
