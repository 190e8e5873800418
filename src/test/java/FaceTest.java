import java.io.IOException;
import java.lang.reflect.Array;
import java.lang.reflect.Field;
import java.lang.reflect.Method;
import java.lang.reflect.Modifier;
import java.nio.file.Files;
import java.nio.file.Path;
import java.util.Arrays;
import java.util.Collections;
import java.util.IdentityHashMap;
import java.util.Set;
import java.util.TreeSet;

/** The face as the document tells it, and those rules of the language that can be looked up. */
public final class FaceTest {
    private static final String[] FACE = {
        "int unit(int,int,int,int,int) IllegalArgumentException IllegalStateException",
        "boolean costs(int,int,int,int,int)",
        "boolean starts(int,int,int,int)",
        "boolean before(int,int,int)",
        "boolean demand(int,int,int)",
        "int plan()",
        "int redispatch()",
        "int output(int,int) IndexOutOfBoundsException",
        "boolean set(int,int,int)",
        "int verify()",
        "int cost(int) IllegalArgumentException IllegalStateException",
        "boolean price(int,int)",
        "int priceOf(int) IndexOutOfBoundsException",
        "long alone(int) IndexOutOfBoundsException",
        "int lone(int,int) IndexOutOfBoundsException",
        "long bound()",
        "long improve(int) IllegalArgumentException",
        "boolean keep(int)",
        "boolean take(int)",
        "int count(int)",
    };

    /** What one object may hold: 512 objects of it then stay far within a run's room. */
    private static final int MOST_OBJECTS = 100;
    private static final int MOST_ELEMENTS = 5000;

    private static int wrong = 0;

    public static void main(String[] args) throws IOException, IllegalAccessException {
        face();
        members();
        room();
        source();
        System.out.println(wrong == 0 ? "the face is as told" : wrong + " faults");
        if (wrong != 0) {
            System.exit(1);
        }
    }

    private static void check(String what, boolean holds) {
        if (!holds) {
            wrong++;
            System.out.println(what);
        }
    }

    private static String signature(Method method) {
        StringBuilder text = new StringBuilder();
        text.append(method.getReturnType().getSimpleName()).append(' ').append(method.getName());
        text.append('(');
        for (Class<?> type : method.getParameterTypes()) {
            text.append(text.charAt(text.length() - 1) == '(' ? "" : ",").append(type);
        }
        text.append(')');
        for (Class<?> type : method.getExceptionTypes()) {
            text.append(' ').append(type.getSimpleName());
        }
        return text.toString();
    }

    private static void face() {
        Set<String> there = new TreeSet<>();
        for (Method method : CommitDesk.class.getDeclaredMethods()) {
            if (!Modifier.isPrivate(method.getModifiers())) {
                there.add(signature(method));
                check("not public: " + method, method.getModifiers() == Modifier.PUBLIC);
            }
        }
        check("the face is " + there, there.equals(new TreeSet<>(Arrays.asList(FACE))));
        check("one constructor", CommitDesk.class.getDeclaredConstructors().length == 1
                && CommitDesk.class.getConstructors().length == 1);
        check("the class", CommitDesk.class.getModifiers() == (Modifier.PUBLIC | Modifier.FINAL));
        check("NONE", CommitDesk.NONE == -1);
    }

    private static void members() {
        Set<String> names = new TreeSet<>();
        for (String one : FACE) {
            names.add(one.substring(one.indexOf(' ') + 1, one.indexOf('(')));
        }
        for (Field field : CommitDesk.class.getDeclaredFields()) {
            check("not private: " + field, Modifier.isPrivate(field.getModifiers())
                    || field.getName().equals("NONE"));
        }
        Class<?>[] inside = CommitDesk.class.getDeclaredClasses();
        check("classes", inside.length <= 12);
        for (Class<?> one : inside) {
            check("static and not public: " + one, Modifier.isStatic(one.getModifiers())
                    && !Modifier.isPublic(one.getModifiers())
                    && !Modifier.isProtected(one.getModifiers()));
            fields(one);
            for (Method method : one.getDeclaredMethods()) {
                check("named as one of the face: " + method, !names.contains(method.getName()));
                check("seven parameters: " + method, method.getParameterCount() <= 7);
            }
        }
        fields(CommitDesk.class);
        for (Method method : CommitDesk.class.getDeclaredMethods()) {
            check("named as one of the face: " + method, !names.contains(method.getName())
                    || Modifier.isPublic(method.getModifiers()));
        }
    }

    private static void fields(Class<?> of) {
        int own = 0;
        for (Field field : of.getDeclaredFields()) {
            own += Modifier.isStatic(field.getModifiers()) ? 0 : 1;
            check("static and not final: " + field, !Modifier.isStatic(field.getModifiers())
                    || Modifier.isFinal(field.getModifiers()));
        }
        check("fields of " + of, own <= 20);
    }

    private static void room() throws IllegalAccessException {
        CommitDesk desk = new CommitDesk(8);
        long[] atFirst = count(desk);
        for (int set = 0; set < 3; set++) {
            desk.unit(1, 4, 2, 2, 2);
        }
        for (int i = 0; i < 100; i++) {
            desk.demand(i % 8, i % 13, 0);
            desk.plan();
            desk.redispatch();
            desk.improve(3);
            desk.keep(i % 4);
        }
        long[] later = count(desk);
        System.out.println(later[0] + " objects, " + later[1] + " elements a desk");
        check("room " + Arrays.toString(later),
                later[0] <= MOST_OBJECTS && later[1] <= MOST_ELEMENTS);
        check("calls keep nothing new", Arrays.equals(atFirst, later));
    }

    private static long[] count(Object root) throws IllegalAccessException {
        Set<Object> seen = Collections.newSetFromMap(new IdentityHashMap<>());
        long[] counts = new long[2];
        walk(root, seen, counts);
        return counts;
    }

    private static void walk(Object at, Set<Object> seen, long[] counts)
            throws IllegalAccessException {
        if (at == null || !seen.add(at)) {
            return;
        }
        counts[0]++;
        if (at.getClass().isArray()) {
            counts[1] += Array.getLength(at);
            for (int i = 0; !at.getClass().getComponentType().isPrimitive()
                    && i < Array.getLength(at); i++) {
                walk(Array.get(at, i), seen, counts);
            }
            return;
        }
        for (Field field : at.getClass().getDeclaredFields()) {
            if (!Modifier.isStatic(field.getModifiers())) {
                counts[1]++;
                field.setAccessible(true);
                if (!field.getType().isPrimitive()) {
                    walk(field.get(at), seen, counts);
                }
            }
        }
    }

    private static void source() throws IOException {
        String text = Files.readString(Path.of(System.getProperty("program")));
        check("imports", text.replace("import java.util.Arrays;", "").indexOf("import ") < 0);
        String[] none = {"package ", "->", "::", "finally", "synchronized", "assert", "System.out",
            "currentTimeMillis", "nanoTime", "Exact(", "Random", "static {", "catch", "hashCode",
            "toString", "double", "float"};
        for (String word : none) {
            check("the program has " + word, !text.contains(word));
        }
        check("plain characters", text.chars().allMatch(c -> c == '\n' || c >= ' ' && c < 127));
        for (String line : text.split("\n")) {
            check("long line: " + line, line.length() <= 100);
        }
    }
}
