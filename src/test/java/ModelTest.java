import java.util.ArrayList;
import java.util.List;
import java.util.Random;

/** Runs of random calls, right and wrong ones, on the class and on the model of the document. */
public final class ModelTest {
    private static final int RUNS = 1500;
    private static final int CALLS = 512;
    private static final String[] NAMES = {
        "feed", "end", "text", "fault", "rule", "arm", "stroke", "alter", "hang", "cut", "set", "add", "drop",
        "pull", "steps", "runs", "ahead", "when", "again", "slack", "kind", "swap", "miss", "lead", "luck", "mean",
        "see", "forget", "kinds", "slacks", "ask", "drift", "keep", "back", "sheet", "lay", "read", "torn", "count"
    };

    private static Random random;

    private static int pick(int low, int high) {
        return low + random.nextInt(high - low + 1);
    }

    /** Mostly within low and high; now and then an edge, just beyond it, or far off. */
    private static int near(int low, int high) {
        switch (random.nextInt(20)) {
            case 0:
                return low - 1;
            case 1:
                return high + 1;
            case 2:
                return low;
            case 3:
                return high;
            case 4:
                return random.nextInt(4) == 0 ? random.nextInt() : pick(low, high);
            case 5:
                return random.nextInt(4) == 0 ? Integer.MIN_VALUE + random.nextInt(2) : pick(low, high);
            case 6:
                return random.nextInt(4) == 0 ? Integer.MAX_VALUE - random.nextInt(2) : pick(low, high);
            default:
                return pick(low, high);
        }
    }

    private static int what(int most) {
        return random.nextInt(12) == 0 ? near(0, most) : pick(0, most);
    }

    private static String textLine() {
        String[] names = {"plain", "lag", "stick", "worn", "on", "back", "on", "back", "on", "back"};
        String line = names[random.nextInt(names.length)]
                + " ".repeat(random.nextInt(3))
                + (random.nextInt(10) == 0 ? "0" : "")
                + random.nextInt(10)
                + " ".repeat(random.nextInt(2))
                + ";"
                + " ".repeat(random.nextInt(2));
        if (random.nextInt(25) == 0) {
            String[] odd = {"x", "onn", "123", "10", "99", ";", " ", "!", "A", "\t", "\0", "on", "7", "worn 3"};
            int at = random.nextInt(line.length() + 1);
            line = line.substring(0, at) + odd[random.nextInt(odd.length)] + line.substring(at);
        }
        if (random.nextInt(40) == 0) {
            line = line.substring(0, random.nextInt(line.length()));
        }
        return line;
    }

    private final SlackArms x = new SlackArms();
    private final Model m = new Model();
    private final List<String> log = new ArrayList<>();
    private int calls = 0;
    private boolean same = true;

    private void check(String call, long got, long want) {
        calls++;
        log.add(call + " -> " + got);
        if (got != want && same) {
            same = false;
            System.out.println(String.join("\n", log));
        }
        if (got != want) {
            Checks.due(call, got, want);
        }
    }

    private void feed(int c) {
        check("feed(" + c + ")", x.feed(c), m.feed(c));
    }

    private void tellText() {
        int lines = random.nextInt(12) == 0 ? 30 : random.nextInt(10);
        StringBuilder text = new StringBuilder();
        for (int i = 0; i < lines; i++) {
            text.append(textLine());
        }
        // A few more than the tape takes; so a run stays within what is promised of its object.
        text.setLength(Math.min(text.length(), 170));
        for (char c : text.toString().toCharArray()) {
            feed(c);
        }
        check("text()", x.text(), m.text());
        check("fault()", x.fault(), m.fault());
    }

    private void fillSheet() {
        int k = pick(0, 3);
        int lane = pick(0, 2);
        int n = pick(0, 12);
        check("sheet(" + k + "," + lane + "," + n + ")", x.sheet(k, lane, n), m.sheet(k, lane, n));
        for (int i = 0; i < n; i++) {
            int v = random.nextInt(15) == 0 ? near(0, 18) : pick(0, 18) + (pick(0, 3) << 16);
            check("lay(" + k + "," + i + "," + v + ")", x.lay(k, i, v), m.lay(k, i, v));
        }
    }

    private void callText(String name) {
        int a = near(0, Math.max(0, m.now.arms.size() - 1));
        int i = near(0, Math.max(0, m.now.strokes.size() - 1));
        int w = what(5);
        switch (name) {
            case "feed" -> feed(near(0, 127));
            case "end" -> {
                int n = near(0, m.tape.length());
                check("end(" + n + ")", x.end(n), m.end(n));
            }
            case "text" -> {
                if (random.nextInt(6) == 0) {
                    tellText();
                }
            }
            case "fault" -> check("fault()", x.fault(), m.fault());
            case "rule" -> check("rule(" + w + ")", x.rule(w), m.rule(w));
            case "arm" -> check("arm(" + a + "," + w + ")", x.arm(a, w), m.arm(a, w));
            case "stroke" -> check("stroke(" + i + ")", x.stroke(i), m.stroke(i));
            case "count" -> check("count(" + w + ")", x.count(w), m.count(w));
            default -> callChange(name, a, i);
        }
    }

    private void callChange(String name, int a, int i) {
        int v = near(0, 18);
        int w = what(2);
        int setting = near(0, w == 0 ? 3 : 9);
        int kind = near(0, 3);
        switch (name) {
            case "alter" -> check("alter(" + a + "," + w + "," + setting + ")", x.alter(a, w, setting), m.alter(a, w, setting));
            case "hang" -> check("hang(" + kind + "," + setting + ")", x.hang(kind, setting), m.hang(kind, setting));
            case "cut" -> {
                int n = near(0, m.now.arms.size());
                check("cut(" + n + ")", x.cut(n), m.cut(n));
            }
            case "set" -> check("set(" + i + "," + v + ")", x.set(i, v), m.set(i, v));
            case "add" -> check("add(" + v + ")", x.add(v), m.add(v));
            case "drop" -> {
                int n = near(Math.max(0, m.now.strokes.size() - 3), m.now.strokes.size());
                check("drop(" + n + ")", x.drop(n), m.drop(n));
            }
            case "pull" -> check("pull(" + v + ")", x.pull(v), m.pull(v));
            default -> callSteps(name, a);
        }
    }

    private void callSteps(String name, int a) {
        int n = random.nextInt(3) == 0 ? near(0, 200) : pick(0, 30);
        int w = what(4);
        int place = placeNear(a, random.nextInt(4) == 0 ? 60 : 9);
        switch (name) {
            case "steps" -> {
                int k = random.nextInt(3) == 0 ? near(0, 100) : pick(0, 10);
                check("steps(" + k + ")", x.steps(k), m.steps(k));
            }
            case "runs" -> check("runs(" + n + "," + w + ")", x.runs(n, w), m.runs(n, w));
            case "ahead" -> check("ahead(" + a + "," + n + ")", x.ahead(a, n), m.ahead(a, n));
            case "when" -> check("when(" + a + "," + place + ")", x.when(a, place), m.when(a, place));
            case "again" -> check("again()", x.again(), m.again());
            default -> callBest(name, a, n);
        }
    }

    private int placeNear(int a, int off) {
        if (random.nextInt(12) == 0) {
            return near(100000, 300000);
        }
        boolean is = a >= 0 && a < m.now.arms.size();
        return 200000 + pick(-off, off) + (is ? m.now.arms.get(a).at : 0);
    }

    private void callBest(String name, int a, int n) {
        int w = what(1);
        switch (name) {
            case "slack" -> check("slack(" + a + "," + n + "," + w + ")", x.slack(a, n, w), m.slack(a, n, w));
            case "kind" -> check("kind(" + a + "," + n + "," + w + ")", x.kind(a, n, w), m.kind(a, n, w));
            case "swap" -> check("swap(" + n + "," + w + ")", x.swap(n, w), m.swap(n, w));
            case "miss" -> check("miss(" + n + "," + w + ")", x.miss(n, w), m.miss(n, w));
            case "lead" -> check("lead(" + n + "," + w + ")", x.lead(n, w), m.lead(n, w));
            default -> callOdds(name, a, w);
        }
    }

    private void callOdds(String name, int a, int w) {
        int v = near(0, 10);
        int n = near(0, 8);
        int e = random.nextInt(3) == 0 ? near(0, 99) : pick(0, 15);
        switch (name) {
            case "luck" -> check("luck(" + v + "," + e + "," + n + "," + w + ")", x.luck(v, e, n, w), m.luck(v, e, n, w));
            case "mean" -> check("mean(" + v + "," + n + "," + w + ")", x.mean(v, n, w), m.mean(v, n, w));
            default -> callSeen(name, a, w);
        }
    }

    private void callSeen(String name, int a, int w) {
        switch (name) {
            case "see" -> {
                int n = random.nextInt(3) == 0 ? near(0, 40) : pick(0, 4);
                int place = placeNear(a, 3);
                // What will be so is seen most of the time, else hardly any kind or slack is left.
                if (random.nextInt(5) != 0 && n >= 0 && n <= 40 && a >= 0 && a < m.now.arms.size()) {
                    place = m.ahead(a, n);
                }
                check("see(" + n + "," + a + "," + place + ")", x.see(n, a, place), m.see(n, a, place));
            }
            case "forget" -> {
                int n = near(0, m.seen.size());
                check("forget(" + n + ")", x.forget(n), m.forget(n));
            }
            case "kinds" -> check("kinds(" + a + ")", x.kinds(a), m.kinds(a));
            case "slacks" -> check("slacks(" + a + ")", x.slacks(a), m.slacks(a));
            case "ask" -> check("ask(" + a + "," + w + ")", x.ask(a, w), m.ask(a, w));
            case "drift" -> {
                int seed = random.nextInt();
                int n = near(1, random.nextBoolean() ? 5 : 200);
                check("drift(" + seed + "," + n + "," + w + ")", x.drift(seed, n, w), m.drift(seed, n, w));
            }
            default -> callSheets(name);
        }
    }

    private void callSheets(String name) {
        int k = random.nextInt(10) == 0 ? near(0, 3) : pick(0, 3);
        int lane = random.nextInt(10) == 0 ? near(0, 2) : pick(0, 2);
        int image = near(0, 1);
        switch (name) {
            case "keep" -> check("keep(" + image + ")", x.keep(image), m.keep(image));
            case "back" -> check("back(" + image + ")", x.back(image), m.back(image));
            case "sheet" -> {
                if (random.nextInt(3) == 0) {
                    fillSheet();
                } else {
                    int n = near(0, 40);
                    check("sheet(" + k + "," + lane + "," + n + ")", x.sheet(k, lane, n), m.sheet(k, lane, n));
                }
            }
            case "lay" -> {
                int i = near(0, 12);
                int v = random.nextBoolean() ? random.nextInt() : near(0, 18);
                check("lay(" + k + "," + i + "," + v + ")", x.lay(k, i, v), m.lay(k, i, v));
            }
            case "read" -> {
                int f = random.nextInt(4) == 0 ? near(0, 40) : pick(0, 4);
                int n = random.nextInt(4) == 0 ? near(0, 40) : pick(0, 8);
                Object row = k >= 0 && k <= 3 ? m.sheets[k] : null;
                if (random.nextInt(4) != 0 && row != null) {
                    lane = row instanceof byte[] ? 0 : row instanceof short[] ? 1 : 2;
                }
                check("read(" + k + "," + lane + "," + f + "," + n + ")", x.read(k, lane, f, n), m.read(k, lane, f, n));
                check("torn()", x.torn(), m.torn());
            }
            case "torn" -> check("torn()", x.torn(), m.torn());
            default -> throw new IllegalStateException(name);
        }
    }

    private void run() {
        if (random.nextInt(8) != 0) {
            tellText();
        }
        while (calls < CALLS - 180 && same) {
            callText(NAMES[random.nextInt(NAMES.length)]);
        }
    }

    public static void main(String[] args) {
        int total = 0;
        for (int seed = 0; seed < RUNS; seed++) {
            random = new Random(seed);
            ModelTest one = new ModelTest();
            one.run();
            total += one.calls;
            Checks.holds("run by seed " + seed + " is as the model", one.same);
            Checks.holds("run by seed " + seed + " has 512 calls at most", one.calls <= CALLS);
        }
        System.out.println(total + " random calls");
        Checks.finish();
    }
}
