import java.io.IOException;
import java.lang.reflect.Array;
import java.lang.reflect.Field;
import java.lang.reflect.Modifier;
import java.nio.file.Files;
import java.nio.file.Path;
import java.util.ArrayList;
import java.util.Arrays;
import java.util.Collections;
import java.util.HashSet;
import java.util.IdentityHashMap;
import java.util.List;
import java.util.Map;
import java.util.Set;
import java.util.regex.Matcher;
import java.util.regex.Pattern;

/**
 * Whether the rows of FenceWays are long enough for every text, and its objects small enough.
 *
 * With all overtaking and no fence the cells don't touch one another, and whatever holds steps
 * back leaves fewer orders. So the most states behind so many steps, and the most readings, are
 * products over the cells, which are counted here for every split of eight steps. The first
 * argument is the path of FenceWays.java.
 */
public final class RoomTests {
    private static final int STEPS = 8;

    private static int passed = 0;
    private static int failed = 0;

    /** Of one cell: the unlike states behind each number of its steps, and its readings. */
    private record Counts(List<Integer> states, int readings) {
    }

    public static void main(String[] args) throws Exception {
        String source = Files.readString(Path.of(args[0]));
        List<List<Counts>> bySteps = new ArrayList<>();
        for (int n = 0; n <= STEPS; n++) {
            bySteps.add(countsOf(n));
        }
        int states = mostStates(bySteps);
        int readings = mostReadings(bySteps);
        due("the most states are 324, not " + states, states == 324);
        due("the most readings are 225, not " + readings, readings == 225);
        due("there is room for all states", constant(source, "MOST_STATES") >= states);
        due("there is room for all readings", constant(source, "MOST_READINGS") >= readings);
        due("slots are more than states", constant(source, "SLOTS") > constant(source, "MOST_STATES"));
        smallObjects();
        System.out.println(passed + " passed, " + failed + " failed");
        if (failed != 0) {
            System.exit(1);
        }
    }

    private static void due(String what, boolean is) {
        if (is) {
            passed++;
        } else {
            failed++;
            System.out.println("RoomTests: not so: " + what);
        }
    }

    private static int constant(String source, String name) throws IOException {
        Matcher found = Pattern.compile("int " + name + " = (\\d+);").matcher(source);
        due("there is a constant " + name, found.find());
        return Integer.parseInt(found.group(1));
    }

    /** Those of one cell with n steps, each of unlike ones once. */
    private static List<Counts> countsOf(int n) {
        Set<Counts> found = new HashSet<>();
        for (int first = 0; first <= n; first++) {
            for (int second = 0; first + second <= n; second++) {
                for (int writers = 0; writers < 1 << n; writers++) {
                    found.add(counted(new int[] {0, first, first + second, n}, writers));
                }
            }
        }
        return new ArrayList<>(found);
    }

    /** Thread t has the steps from[t] up to from[t + 1], done in this order; a state is a text. */
    private static Counts counted(int[] from, int writers) {
        int n = from[3];
        Set<List<Integer>> states = new HashSet<>();
        states.add(new ArrayList<>(Collections.nCopies(3 + 1 + n, 0)));
        List<Integer> layers = new ArrayList<>(List.of(1));
        for (int done = 0; done < n; done++) {
            Set<List<Integer>> next = new HashSet<>();
            for (List<Integer> state : states) {
                for (int t = 0; t < 3; t++) {
                    int s = from[t] + state.get(t);
                    if (s < from[t + 1]) {
                        next.add(behind(state, t, s, (writers >> s & 1) != 0));
                    }
                }
            }
            states = next;
            layers.add(states.size());
        }
        Set<List<Integer>> readings = new HashSet<>();
        for (List<Integer> state : states) {
            readings.add(state.subList(4, 4 + n));
        }
        return new Counts(layers, readings.size());
    }

    /** Steps done in each thread, what is in the cell, what each step has read. */
    private static List<Integer> behind(List<Integer> state, int t, int s, boolean writes) {
        List<Integer> next = new ArrayList<>(state);
        next.set(t, state.get(t) + 1);
        next.set(writes ? 3 : 4 + s, writes ? s + 1 : state.get(3));
        return next;
    }

    private static int mostReadings(List<List<Counts>> bySteps) {
        int most = 0;
        for (int a = 0; a <= STEPS; a++) {
            for (int b = 0; a + b <= STEPS; b++) {
                most = Math.max(most, mostOf(bySteps.get(a)) * mostOf(bySteps.get(b)) * mostOf(bySteps.get(STEPS - a - b)));
            }
        }
        return most;
    }

    private static int mostOf(List<Counts> all) {
        return all.stream().mapToInt(Counts::readings).max().orElse(0);
    }

    private static int mostStates(List<List<Counts>> bySteps) {
        List<List<int[]>> rows = new ArrayList<>();
        for (List<Counts> all : bySteps) {
            rows.add(notBelowAnother(all));
        }
        int most = 0;
        for (int a = 0; a <= STEPS; a++) {
            for (int b = 0; a + b <= STEPS; b++) {
                for (int[] first : rows.get(a)) {
                    for (int[] second : rows.get(b)) {
                        int[] both = together(first, second);
                        for (int[] third : rows.get(STEPS - a - b)) {
                            most = Math.max(most, Arrays.stream(together(both, third)).max().orElse(0));
                        }
                    }
                }
            }
        }
        return most;
    }

    /** Rows that are nowhere above another cannot make the most. */
    private static List<int[]> notBelowAnother(List<Counts> all) {
        Set<List<Integer>> unlike = new HashSet<>();
        all.forEach(counts -> unlike.add(counts.states()));
        List<int[]> kept = new ArrayList<>();
        for (List<Integer> row : unlike) {
            boolean isBelow = false;
            for (List<Integer> other : unlike) {
                isBelow |= other != row && isNowhereAbove(row, other);
            }
            if (!isBelow) {
                kept.add(row.stream().mapToInt(Integer::intValue).toArray());
            }
        }
        return kept;
    }

    private static boolean isNowhereAbove(List<Integer> row, List<Integer> other) {
        for (int i = 0; i < row.size(); i++) {
            if (row.get(i) > other.get(i)) {
                return false;
            }
        }
        return true;
    }

    private static int[] together(int[] one, int[] other) {
        int[] sums = new int[one.length + other.length - 1];
        for (int i = 0; i < one.length; i++) {
            for (int j = 0; j < other.length; j++) {
                sums[i + j] += one[i] * other[j];
            }
        }
        return sums;
    }

    /** All objects and arrays of a new one, and their fields and elements. */
    private static void smallObjects() throws IOException {
        Map<Object, Integer> seen = new IdentityHashMap<>();
        List<Object> open = new ArrayList<>(List.of(new FenceWays()));
        while (!open.isEmpty()) {
            Object next = open.remove(open.size() - 1);
            if (next != null && !seen.containsKey(next)) {
                seen.put(next, next.getClass().isArray() ? Array.getLength(next) : fieldsOf(next.getClass()).size());
                open.addAll(partsOf(next));
            }
        }
        int parts = seen.values().stream().mapToInt(Integer::intValue).sum();
        due("at most 100 objects and arrays, not " + seen.size(), seen.size() <= 100);
        due("at most 4000 fields and elements, not " + parts, parts <= 4000);
    }

    private static List<Field> fieldsOf(Class<?> of) {
        List<Field> fields = new ArrayList<>();
        for (Field field : of.getDeclaredFields()) {
            if (!Modifier.isStatic(field.getModifiers())) {
                fields.add(field);
            }
        }
        return fields;
    }

    private static List<Object> partsOf(Object of) throws IOException {
        List<Object> parts = new ArrayList<>();
        if (of instanceof Object[] row) {
            parts.addAll(Arrays.asList(row));
        } else if (!of.getClass().isArray()) {
            for (Field field : fieldsOf(of.getClass())) {
                parts.addAll(valueOf(field, of));
            }
        }
        return parts;
    }

    private static List<Object> valueOf(Field field, Object of) throws IOException {
        if (field.getType().isPrimitive()) {
            return List.of();
        }
        try {
            field.setAccessible(true);
            return Arrays.asList(field.get(of));
        } catch (IllegalAccessException no) {
            throw new IOException(no);
        }
    }
}
