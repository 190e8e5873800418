import java.lang.reflect.InvocationTargetException;
import java.util.ArrayList;
import java.util.Arrays;
import java.util.List;

/**
 * A CommitDesk that is called by name and remembers its calls, so that it can be made once more:
 * what a refused call changed shows when two desks, one with it and one without it, are asked for
 * all that they can tell.
 */
final class Desk {
    static final String FALSE = "false";
    static final String ARGUMENT = "throws.IllegalArgumentException";
    static final String STATE = "throws.IllegalStateException";
    static final String INDEX = "throws.IndexOutOfBoundsException";

    /** Nothing is promised behind these, so no test may lean on it. */
    private static final int MOST_CALLS = 512;

    private final int told;
    private final CommitDesk desk;
    private final List<String> names = new ArrayList<>();
    private final List<int[]> numbers = new ArrayList<>();
    private final boolean[] kept = new boolean[4];

    Desk(int hours) {
        told = hours;
        desk = new CommitDesk(hours);
    }

    /**
     * A desk on which nothing is as it is at first: two sets, a table that is a plan, tables kept
     * at places 1 and 2, STEP below 64, and prices that are worse than the best ones were.
     */
    static Desk busy() {
        Desk desk = new Desk(4).unit(10, 13, 2, 1, 1).unit(5, 8, 1, 3, 2);
        desk.due(true, "costs", 0, 100, 7, 9, 11).due(true, "costs", 1, 60, 13, 15, 17);
        desk.due(true, "starts", 0, 40, 50, 70).due(true, "starts", 1, 20, 30, 35);
        desk.due(true, "before", 0, 11, 1).due(true, "before", 1, 0, 2);
        desk.due(true, "demand", 0, 11, 1).due(true, "demand", 1, 18, 2);
        desk.due(true, "demand", 2, 17, 0).due(true, "demand", 3, 6, 1);
        desk.tell(0, 9, 0, 63, 1).due(true, "keep", 2);
        desk.due(580, "plan").due(true, "keep", 1);
        desk.prices(12, 9, 11, 10).due(501, "improve", 2);
        return desk;
    }

    /** The same with as many sets as there may be. */
    static Desk full() {
        Desk desk = busy().unit(20, 23, 1, 1, 1).due(true, "costs", 2, 210, 6, 7, 8);
        return desk.prices(12, 9, 11, 10).due(450, "improve", 2).due(-888, "bound");
    }

    /** A desk alike: the same calls on a new object. */
    Desk again() {
        Desk other = new Desk(told);
        for (int i = 0; i < names.size(); i++) {
            other.call(names.get(i), numbers.get(i));
        }
        return other;
    }

    /** The answer as a text; that of a call which throws is throws. and the exception's name. */
    String call(String name, int... with) {
        names.add(name);
        numbers.add(with.clone());
        if (names.size() > MOST_CALLS) {
            throw new IllegalStateException("a test calls an object too often");
        }
        String answer = answer(name, with);
        if (name.equals("keep") && with[0] >= 0 && with[0] < 4) {
            kept[with[0]] = true;
        }
        return answer;
    }

    private String answer(String name, int[] with) {
        Class<?>[] types = new Class<?>[with.length];
        Object[] boxed = new Object[with.length];
        for (int i = 0; i < with.length; i++) {
            types[i] = int.class;
            boxed[i] = with[i];
        }
        try {
            return String.valueOf(CommitDesk.class.getMethod(name, types).invoke(desk, boxed));
        } catch (InvocationTargetException e) {
            return "throws." + e.getCause().getClass().getSimpleName();
        } catch (ReflectiveOperationException e) {
            throw new IllegalStateException(e);
        }
    }

    int calls() {
        return names.size();
    }

    int number(String name, int... with) {
        return Integer.parseInt(call(name, with));
    }

    Desk due(Object want, String name, int... with) {
        Sentences.same(text(name, with), call(name, with), want);
        return this;
    }

    /** The call is refused, on a desk alike, and leaves all that can be told as it was. */
    Desk refuses(String how, String name, int... with) {
        Desk refused = again().due(how, name, with);
        List<String> got = refused.all();
        List<String> want = again().all();
        for (int i = 0; i < want.size(); i++) {
            if (!got.get(i).equals(want.get(i))) {
                Sentences.same(text(name, with) + " changed", got.get(i), want.get(i));
                break;
            }
        }
        return this;
    }

    /** The call is not refused, on a desk alike. */
    Desk takes(String name, int... with) {
        String answer = again().call(name, with);
        Sentences.same(text(name, with) + " is taken, not " + answer,
                answer.equals(FALSE) || answer.startsWith("throws"), false);
        return this;
    }

    /** Of a call's numbers, the one at a place may be least .. most, and none else. */
    Desk range(String how, int place, int least, int most, String name, int... with) {
        int[] inside = {least, most, least + (most - least) / 2};
        int[] beyond = {least - 1, most + 1, -least - 1, most + 256, most + 65536, least - 256,
            Integer.MIN_VALUE, Integer.MIN_VALUE + most, Integer.MAX_VALUE};
        for (int number : inside) {
            takes(name, changed(with, place, number));
        }
        for (int number : beyond) {
            if (number < least || number > most) {
                refuses(how, name, changed(with, place, number));
            }
        }
        return this;
    }

    private static int[] changed(int[] with, int place, int number) {
        int[] changed = with.clone();
        changed[place] = number;
        return changed;
    }

    static String text(String name, int... with) {
        return name + Arrays.toString(with).replace('[', '(').replace(']', ')');
    }

    Desk unit(int low, int high, int up, int down, int ramp) {
        String answer = call("unit", low, high, up, down, ramp);
        Sentences.same("unit is taken, not " + answer, answer.startsWith("throws"), false);
        return this;
    }

    Desk demands(int... demands) {
        for (int hour = 0; hour < demands.length; hour++) {
            due(true, "demand", hour, demands[hour], 0);
        }
        return this;
    }

    Desk prices(int... prices) {
        for (int hour = 0; hour < prices.length; hour++) {
            due(true, "price", hour, prices[hour]);
        }
        return this;
    }

    Desk tell(int set, int... outputs) {
        for (int hour = 0; hour < outputs.length; hour++) {
            due(true, "set", set, hour, outputs[hour]);
        }
        return this;
    }

    Desk row(int set, int... outputs) {
        for (int hour = 0; hour < outputs.length; hour++) {
            due(outputs[hour], "output", set, hour);
        }
        return this;
    }

    Desk lone(int set, int... outputs) {
        for (int hour = 0; hour < outputs.length; hour++) {
            due(outputs[hour], "lone", set, hour);
        }
        return this;
    }

    /**
     * All that this desk can tell; it is not the same behind it. No call that is refused may
     * stand here: what it changes would show on both desks.
     */
    List<String> all() {
        List<String> all = new ArrayList<>();
        int sets = number("count", 0);
        int hours = number("count", 1);
        for (int what = 0; what < 4; what++) {
            ask(all, "count", what);
        }
        for (int hour = 0; hour < hours; hour++) {
            ask(all, "count", 10 + hour);
            ask(all, "count", 20 + hour);
        }
        askTable(all, sets, hours);
        ask(all, "verify");
        boolean isPlan = all.get(all.size() - 1).equals("verify() 0");
        for (int what = 0; isPlan && what < 3; what++) {
            ask(all, "cost", what);
        }
        askLone(all, sets, hours);
        askImproving(all, hours);
        for (int place = 0; place < 4; place++) {
            if (kept[place]) {
                ask(all, "take", place);
                askTable(all, sets, hours);
            }
        }
        ask(all, "redispatch");
        ask(all, "plan");
        askTable(all, sets, hours);
        int[][] patterns = {{100000, 100000}, {-100000, 100000}, {25, 9}};
        for (int[] pattern : patterns) {
            for (int hour = 0; hour < hours; hour++) {
                ask(all, "price", hour, pattern[hour % 2]);
            }
            askLone(all, sets, hours);
        }
        for (int set = 0; set < sets; set++) {
            askStarts(all, set);
        }
        return all;
    }

    private void ask(List<String> all, String name, int... with) {
        all.add(text(name, with) + " " + call(name, with));
    }

    private void askTable(List<String> all, int sets, int hours) {
        for (int set = 0; set < sets; set++) {
            for (int hour = 0; hour < hours; hour++) {
                ask(all, "output", set, hour);
            }
        }
    }

    private void askLone(List<String> all, int sets, int hours) {
        ask(all, "bound");
        for (int set = 0; set < sets; set++) {
            ask(all, "alone", set);
            for (int hour = 0; hour < hours; hour++) {
                ask(all, "lone", set, hour);
            }
        }
    }

    private void askStarts(List<String> all, int set) {
        ask(all, "price", 0, 100000);
        for (int off = 1; off <= 3; off++) {
            ask(all, "before", set, 0, off);
            ask(all, "alone", set);
        }
    }

    /** The round by itself tells STEP and BEST, which further ones may hide. */
    private void askImproving(List<String> all, int hours) {
        for (int rounds = 1; rounds < 3; rounds++) {
            for (int hour = 0; hour < hours; hour++) {
                ask(all, "priceOf", hour);
            }
            ask(all, "improve", rounds);
            ask(all, "count", 2);
        }
    }
}
