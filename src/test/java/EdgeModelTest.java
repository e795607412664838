import java.lang.reflect.Method;
import java.util.ArrayList;
import java.util.HashMap;
import java.util.List;
import java.util.Map;
import java.util.TreeSet;

/**
 * Every call with its numbers at their edges, one beyond them and far off, in all combinations, on
 * objects that have nothing, a part, or all that may be: held against the model of the document.
 */
public final class EdgeModelTest {
    /** Each promise's number and call with the least and the most of each of its numbers. */
    private static final String[] CALLS = {
        "2 feed 0..127", "3 end 0..160", "4 text", "5 fault", "6 rule 0..5", "7 arm 0..3 0..5", "8 stroke 0..15",
        "9 alter 0..3 0..2 0..9", "9 alter 0..3 0..0 0..3", "10 hang 0..3 0..9", "11 cut 0..4", "12 set 0..15 0..18",
        "13 add 0..18", "14 drop 0..16", "15 pull 0..18", "16 steps 0..100", "17 runs 0..200 0..4",
        "18 ahead 0..3 0..200", "19 when 0..3 100000..300000", "19 when 0..3 199990..200010", "20 again",
        "21 slack 0..3 0..200 0..1", "22 kind 0..3 0..200 0..1", "23 swap 0..200 0..1", "24 miss 0..200 0..1",
        "25 lead 0..200 0..1", "26 luck 0..10 0..99 0..8 0..1", "27 mean 0..10 0..8 0..1",
        "28 see 0..40 0..3 100000..300000", "29 forget 0..6", "30 kinds 0..3", "31 slacks 0..3", "32 ask 0..3 0..1",
        "33 drift -1..1 1..200 0..1", "34 keep 0..1", "35 back 0..1", "36 sheet 0..3 0..2 0..40",
        "37 lay 0..3 0..39 0..18", "38 read 0..3 0..2 0..39 0..40", "39 torn", "40 count 0..5"
    };

    private static final String[] STATES = {
        // Nothing.
        "",
        // Arms alone.
        "hang(0,3) hang(3,1) pull(18) pull(2)",
        // Strokes alone.
        "add(18) add(3) steps(1)",
        // A part of all.
        "hang(1,1) hang(2,2) add(18) add(0) add(14) steps(5) see(2,1,200004) keep(1) pull(16) feed(111) feed(110)"
                + " feed(49) feed(59) sheet(0,0,0) sheet(1,1,3) lay(1,1,18) lay(1,2,19) read(1,0,0,1)",
        // All that may be, but for STEP.
        "hang(3,9) hang(2,0) hang(1,0) hang(0,9) 7*add(18) 8*add(1) add(9) 3*steps(100) 6*see(40,3,200500) keep(0)"
                + " pull(0) keep(1) 160*feed(32) sheet(0,0,40) sheet(1,1,40) sheet(2,2,40) sheet(3,0,1) lay(3,0,-1)"
                + " lay(2,39,18) read(0,0,40,1)",
        // The last STEP.
        "hang(0,1) add(10) 99*steps(100) steps(99)"
    };

    private static final Map<String, Method> CLASS_FACE = facesOf(SlackArms.class);
    private static final Map<String, Method> MODEL_FACE = facesOf(Model.class);

    private final SlackArms x = new SlackArms();
    private final Model m = new Model();

    private static Map<String, Method> facesOf(Class<?> type) {
        Map<String, Method> out = new HashMap<>();
        for (Method one : type.getDeclaredMethods()) {
            if (!java.lang.reflect.Modifier.isPrivate(one.getModifiers())) {
                one.setAccessible(true);
                out.put(one.getName(), one);
            }
        }
        return out;
    }

    private static long make(Method method, Object of, int[] args) throws ReflectiveOperationException {
        Object[] boxed = new Object[args.length];
        for (int i = 0; i < args.length; i++) {
            boxed[i] = args[i];
        }
        return ((Number) method.invoke(of, boxed)).longValue();
    }

    private boolean same(String name, int... args) throws ReflectiveOperationException {
        return make(CLASS_FACE.get(name), x, args) == make(MODEL_FACE.get(name), m, args);
    }

    private void lead(String state) throws ReflectiveOperationException {
        for (String word : state.split(" ")) {
            if (word.isEmpty()) {
                continue;
            }
            int star = word.indexOf('*');
            int times = star < 0 ? 1 : Integer.parseInt(word.substring(0, star));
            int open = word.indexOf('(');
            String[] numbers = word.substring(open + 1, word.length() - 1).split(",");
            int[] args = new int[numbers.length];
            for (int i = 0; i < args.length; i++) {
                args[i] = Integer.parseInt(numbers[i]);
            }
            for (int i = 0; i < times; i++) {
                Checks.holds("leads there: " + word, same(word.substring(star + 1, open), args));
            }
        }
    }

    /** Whether all that calls can tell of it is as in the model. */
    private boolean standsAlike() throws ReflectiveOperationException {
        boolean alike = same("fault") && same("torn");
        for (int what = 0; what <= 5; what++) {
            alike = alike && same("rule", what) && same("count", what);
        }
        for (int a = 0; a < m.now.arms.size(); a++) {
            for (int what = 0; what <= 5; what++) {
                alike = alike && same("arm", a, what);
            }
            alike = alike && same("kinds", a) && same("slacks", a);
        }
        for (int i = 0; i < m.now.strokes.size(); i++) {
            alike = alike && same("stroke", i);
        }
        return alike;
    }

    private static int[] edges(String range) {
        int dots = range.indexOf("..");
        int low = Integer.parseInt(range.substring(0, dots));
        int high = Integer.parseInt(range.substring(dots + 2));
        TreeSet<Integer> out = new TreeSet<>(List.of(Integer.MIN_VALUE, low - 1, low, high, high + 1, Integer.MAX_VALUE));
        out.add(low + (high - low) / 2);
        return out.stream().mapToInt(v -> v).toArray();
    }

    private static List<int[]> combinations(String[] parts) {
        List<int[]> out = new ArrayList<>();
        out.add(new int[0]);
        for (int i = 2; i < parts.length; i++) {
            List<int[]> longer = new ArrayList<>();
            for (int[] row : out) {
                for (int v : edges(parts[i])) {
                    int[] more = java.util.Arrays.copyOf(row, row.length + 1);
                    more[row.length] = v;
                    longer.add(more);
                }
            }
            out = longer;
        }
        return out;
    }

    public static void main(String[] args) throws ReflectiveOperationException {
        for (int state = 0; state < STATES.length; state++) {
            for (String call : CALLS) {
                String[] parts = call.split(" ");
                for (int[] row : combinations(parts)) {
                    EdgeModelTest one = new EdgeModelTest();
                    one.lead(STATES[state]);
                    String title = parts[0] + ": " + parts[1] + java.util.Arrays.toString(row) + " in state " + state;
                    Checks.holds(title + " answers as the model", one.same(parts[1], row));
                    Checks.holds(title + " leaves all as the model", one.standsAlike());
                }
            }
        }
        Checks.finish();
    }
}
