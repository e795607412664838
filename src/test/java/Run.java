import java.lang.reflect.Method;
import java.util.ArrayList;
import java.util.HashMap;
import java.util.List;
import java.util.Map;
import java.util.Set;
import java.util.regex.Matcher;
import java.util.regex.Pattern;

/**
 * Runs of calls on new objects, written as text, a call to a line with the answer that is due:
 *
 * <pre>
 *   tell 'plain 2;on 5;'     feeds the bytes, and text() takes them
 *   type 'on 1'              feeds the bytes alone
 *   4 times hang(0,0)        calls that lead there: what they answer isn't asked, but none is refused
 *   steps(101)  BAD          a call and the answer that is due
 * </pre>
 *
 * <p>Behind each call that is refused, and behind each question, all must be as without it: two more
 * objects, one with that call and one without, are looked through as far as calls can see.
 */
final class Run {
    /** What is promised ends with an object's 512th call: no run may rest on more. */
    private static final int MOST_CALLS = 512;
    private static final Set<String> QUESTIONS = Set.of(
            "fault", "rule", "arm", "stroke", "runs", "ahead", "when", "again", "slack", "kind", "swap", "miss",
            "lead", "luck", "mean", "kinds", "slacks", "ask", "drift", "torn", "count");
    private static final Map<String, Long> WORDS = Map.of(
            "BAD", -1L, "STATE", -2L, "FULL", -3L, "NONE", -4L,
            "MIN", (long) Integer.MIN_VALUE, "MAX", (long) Integer.MAX_VALUE);
    private static final Pattern LINE = Pattern.compile("(?:(\\d+) times )?(\\w+)\\(([^)]*)\\)(?:\\s+(\\S+))?");
    private static final Map<String, Method> FACE = new HashMap<>();

    static {
        for (Method m : SlackArms.class.getDeclaredMethods()) {
            if (java.lang.reflect.Modifier.isPublic(m.getModifiers())) {
                FACE.put(m.getName(), m);
            }
        }
    }

    record Call(String name, int... args) {
        @Override
        public String toString() {
            StringBuilder out = new StringBuilder(name).append('(');
            for (int i = 0; i < args.length; i++) {
                out.append(i == 0 ? "" : ", ").append(args[i]);
            }
            return out.append(')').toString();
        }
    }

    private final String title;
    private final List<Call> made = new ArrayList<>();
    private final SlackArms x = new SlackArms();

    private Run(String title) {
        this.title = title;
    }

    /** Makes the calls of the script, each answer against the one that is due. */
    static void check(int promise, String title, String script) {
        Run run = new Run(promise + ": " + title);
        for (String line : script.split("\n")) {
            run.take(line.strip());
        }
        Checks.holds(run.title + ": 512 calls at most", run.made.size() <= MOST_CALLS);
    }

    /**
     * The number that stands as # in the call is taken from low, where the answer is due to be
     * atLow, to high, where it is atHigh; one beyond at either end, or far off, it is BAD.
     */
    static void bounds(int promise, String setup, String call, long low, long atLow, long high, long atHigh) {
        String title = "bounds of " + call;
        check(promise, title, setup + "\n" + with(call, low) + " " + atLow);
        check(promise, title, setup + "\n" + with(call, high) + " " + atHigh);
        for (long beyond : new long[] {low - 1, high + 1, Integer.MIN_VALUE, Integer.MAX_VALUE}) {
            check(promise, title, setup + "\n" + with(call, beyond) + " BAD");
        }
    }

    private static String with(String call, long number) {
        return call.replace("#", Long.toString(number));
    }

    private void take(String line) {
        if (line.isEmpty() || line.startsWith("//")) {
            return;
        }
        if (line.startsWith("tell '") || line.startsWith("type '")) {
            type(line.substring(line.indexOf('\'') + 1, line.lastIndexOf('\'')));
            if (line.startsWith("tell")) {
                lead(new Call("text"));
            }
            return;
        }
        Matcher m = LINE.matcher(line);
        if (!m.matches()) {
            throw new IllegalStateException("the test's own line can't be read: " + line);
        }
        Call call = new Call(m.group(2), numbers(m.group(3)));
        int times = m.group(1) == null ? 1 : Integer.parseInt(m.group(1));
        for (int i = 0; i < times; i++) {
            if (m.group(4) == null) {
                lead(call);
            } else {
                ask(call, number(m.group(4)));
            }
        }
    }

    private void type(String bytes) {
        for (char c : bytes.toCharArray()) {
            lead(new Call("feed", c));
        }
    }

    private static int[] numbers(String row) {
        if (row.isBlank()) {
            return new int[0];
        }
        String[] parts = row.split(",");
        int[] out = new int[parts.length];
        for (int i = 0; i < parts.length; i++) {
            out[i] = (int) number(parts[i].strip());
        }
        return out;
    }

    private static long number(String word) {
        return WORDS.containsKey(word) ? WORDS.get(word) : Long.parseLong(word);
    }

    private static long make(SlackArms x, Call call) {
        Object[] args = new Object[call.args.length];
        for (int i = 0; i < args.length; i++) {
            args[i] = call.args[i];
        }
        try {
            return ((Number) FACE.get(call.name).invoke(x, args)).longValue();
        } catch (ReflectiveOperationException e) {
            throw new IllegalStateException(call + " can't be made", e);
        }
    }

    private void lead(Call call) {
        long got = make(x, call);
        made.add(call);
        Checks.holds(title + ": " + call + " leads there, but answered " + got, got >= 0);
    }

    private void ask(Call call, long want) {
        long got = make(x, call);
        Checks.due(title + ": " + call, got, want);
        if (want < 0 || QUESTIONS.contains(call.name)) {
            changesNothing(call);
        }
        made.add(call);
    }

    private void changesNothing(Call call) {
        List<Call> with = new ArrayList<>(made);
        with.add(call);
        List<Call> without = new ArrayList<>(made);
        boolean isText = call.name.equals("text");
        if (isText) {
            // A text that is refused leaves THE TAPE empty, and fault() tells of it.
            without.add(new Call("end", 0));
        }
        Checks.holds(title + ": " + call + " changes nothing",
                lookThrough(with, !isText).equals(lookThrough(without, !isText)));
    }

    /** All that calls can tell of what these calls lead to, each part asked of an object of its own. */
    private static List<String> lookThrough(List<Call> calls, boolean faultToo) {
        List<String> out = new ArrayList<>();
        Looker first = new Looker(calls);
        out.add(first.whatThereIs() + (faultToo ? first.see("fault") : ""));
        out.add(new Looker(calls).whatIsSeen());
        for (int k = 0; k <= 1; k++) {
            Looker image = new Looker(calls);
            out.add(image.see("back", k) + image.whatThereIs());
        }
        for (int k = 0; k <= 3; k++) {
            out.add(new Looker(calls).cells(k));
        }
        int bytes = (int) first.answer("count", 2);
        for (int n = 0; n <= bytes; n++) {
            Looker tape = new Looker(calls);
            out.add(tape.see("end", n) + tape.see("text") + tape.see("fault") + tape.whatThereIs());
        }
        return out;
    }

    /** An object that has come through some calls, to be looked through by more. */
    private static final class Looker {
        private final SlackArms x = new SlackArms();
        private int calls = 0;

        Looker(List<Call> before) {
            for (Call call : before) {
                make(x, call);
                calls++;
            }
        }

        long answer(String name, int... args) {
            calls++;
            if (calls > MOST_CALLS) {
                throw new IllegalStateException("the test looks at an object beyond its 512th call");
            }
            return make(x, new Call(name, args));
        }

        String see(String name, int... args) {
            return " " + answer(name, args);
        }

        String whatThereIs() {
            StringBuilder out = new StringBuilder();
            for (int what = 0; what <= 5; what++) {
                out.append(see("rule", what)).append(see("count", what));
            }
            long arms = answer("rule", 0);
            for (int a = 0; a < arms; a++) {
                for (int what = 0; what <= 5; what++) {
                    out.append(see("arm", a, what));
                }
            }
            long strokes = answer("rule", 1);
            for (int i = 0; i < strokes; i++) {
                out.append(see("stroke", i));
            }
            return out.append(see("torn")).toString();
        }

        String whatIsSeen() {
            StringBuilder out = new StringBuilder();
            long arms = answer("rule", 0);
            for (int n = (int) answer("count", 0); n > 0; n--) {
                for (int a = 0; a < arms; a++) {
                    out.append(see("kinds", a)).append(see("slacks", a));
                }
                out.append(see("forget", n - 1));
            }
            return out.toString();
        }

        /** A sheet's lane and cells: what is read of it as of each lane, cell by cell. */
        String cells(int k) {
            StringBuilder out = new StringBuilder(see("drop", 0));
            for (int lane = 0; lane <= 2; lane++) {
                long torn = 0;
                for (int i = 0; torn == 0; i++) {
                    long came = answer("read", k, lane, i, 1);
                    torn = came == 0 ? answer("torn") : 0;
                    out.append(' ').append(came).append(' ').append(torn);
                    if (came == 1) {
                        out.append(see("stroke", 0)).append(see("drop", 0));
                    }
                }
            }
            return out.toString();
        }
    }
}
