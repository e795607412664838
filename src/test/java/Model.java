import java.math.BigInteger;
import java.util.ArrayList;
import java.util.HashMap;
import java.util.List;
import java.util.Map;
import java.util.regex.Matcher;
import java.util.regex.Pattern;

/**
 * The document once more, as plainly as the whole Java library lets it be said: what the class
 * answers is held against it. It is slow and makes objects freely; its sheets are real rows whose
 * faults the machine finds.
 */
final class Model {
    static final class Arm {
        int kind, slack, at, turns, way;

        Arm(int kind, int slack, int at) {
            this.kind = kind;
            this.slack = slack;
            this.at = at;
        }

        Arm copy() {
            Arm c = new Arm(kind, slack, at);
            c.turns = turns;
            c.way = way;
            return c;
        }

        int play() {
            return kind == 3 ? slack + turns : slack;
        }
    }

    static final class World {
        int hand, step;
        List<Arm> arms = new ArrayList<>();
        List<Integer> strokes = new ArrayList<>();
        int moved, turned;

        World copy() {
            World w = new World();
            w.hand = hand;
            w.step = step;
            for (Arm a : arms) w.arms.add(a.copy());
            w.strokes.addAll(strokes);
            return w;
        }

        int error() {
            return arms.isEmpty() ? 0 : Math.abs(arms.get(arms.size() - 1).at - hand);
        }

        World move(int by) {
            hand += by;
            for (int a = 0; a < arms.size(); a++) {
                Arm arm = arms.get(a);
                int led = a == 0 ? hand : arms.get(a - 1).at;
                int off = led - arm.at;
                int size = Math.max(0, Math.abs(off) - arm.play());
                if (arm.kind == 1) size = Math.max(0, size - 1);
                if (arm.kind >= 2 && size == 1) size = 0;
                if (size == 0) continue;
                int way = off < 0 ? -1 : 1;
                if (arm.way + way == 0) {
                    turned++;
                    if (arm.turns < 9) arm.turns++;
                }
                arm.way = way;
                arm.at += way * size;
                moved += size;
            }
            return this;
        }

        World one() {
            if (!strokes.isEmpty()) move(strokes.get(step % strokes.size()));
            step++;
            return this;
        }

        World many(int n) {
            World w = copy();
            for (int i = 0; i < n; i++) w.one();
            return w;
        }
    }

    World now = new World();
    StringBuilder tape = new StringBuilder();
    int fault, torn;
    World[] images = new World[2];
    List<int[]> seen = new ArrayList<>();
    Object[] sheets = new Object[4];

    private static boolean in(int v, int low, int high) {
        return v >= low && v <= high;
    }

    private boolean noArm(int a) {
        return !in(a, 0, now.arms.size() - 1);
    }

    int feed(int c) {
        if (!in(c, 0, 127)) return -1;
        if (tape.length() == 160) return -3;
        return tape.append((char) c).length();
    }

    int end(int n) {
        int had = tape.length();
        if (!in(n, 0, had)) return -1;
        tape.setLength(n);
        return had;
    }

    private static final Pattern TOKEN = Pattern.compile(" *([a-z]+|[0-9]+|;|\\z|.)", Pattern.DOTALL);

    int text() {
        String all = tape.toString();
        tape.setLength(0);
        World told = new World();
        Matcher m = TOKEN.matcher(all);
        int lines = 0;
        int place = 0;
        int stage = 0;
        String name = "";
        int number = 0;
        while (true) {
            m.region(place, all.length());
            if (!m.lookingAt()) throw new IllegalStateException("no match at " + place);
            String token = m.group(1);
            int at = m.start(1);
            place = m.end(1);
            if (token.isEmpty()) {
                if (stage != 0) return wrong(2, at);
                break;
            }
            boolean isName = token.matches("[a-z]+");
            boolean isNumber = token.matches("[0-9]{1,2}");
            boolean isStop = token.equals(";");
            if (!isName && !isNumber && !isStop) return wrong(1, at);
            if (stage == 0) {
                if (!isName || !token.matches("plain|lag|stick|worn|on|back")) return wrong(2, at);
                boolean strokeLine = token.matches("on|back");
                if (strokeLine && told.strokes.size() == 16) return wrong(5, at);
                if (!strokeLine && told.arms.size() == 4) return wrong(5, at);
                name = token;
            } else if (stage == 1) {
                if (!isNumber) return wrong(2, at);
                number = Integer.parseInt(token);
                if (number > 9) return wrong(3, at);
            } else {
                if (!isStop) return wrong(2, at);
                if (name.equals("on")) told.strokes.add(number);
                else if (name.equals("back")) told.strokes.add(-number);
                else told.arms.add(new Arm(List.of("plain", "lag", "stick", "worn").indexOf(name), number, 0));
                lines++;
            }
            stage = (stage + 1) % 3;
        }
        fault = 0;
        now = told;
        seen.clear();
        images = new World[2];
        return lines;
    }

    private int wrong(int which, int at) {
        fault = which;
        return -10 - at;
    }

    int fault() {
        return fault;
    }

    int rule(int what) {
        int size = now.strokes.size();
        return switch (what) {
            case 0 -> now.arms.size();
            case 1 -> size;
            case 2 -> now.step;
            case 3 -> 200000 + now.hand;
            case 4 -> now.error();
            case 5 -> size == 0 ? -4 : 10 + now.strokes.get(now.step % size);
            default -> -1;
        };
    }

    int arm(int a, int what) {
        if (noArm(a)) return -1;
        Arm arm = now.arms.get(a);
        return switch (what) {
            case 0 -> arm.kind;
            case 1 -> arm.slack;
            case 2 -> 200000 + arm.at;
            case 3 -> arm.turns;
            case 4 -> arm.way + 1;
            case 5 -> arm.play();
            default -> -1;
        };
    }

    int stroke(int i) {
        return in(i, 0, now.strokes.size() - 1) ? now.strokes.get(i) + 10 : -1;
    }

    int alter(int a, int what, int v) {
        if (noArm(a) || !in(what, 0, 2) || !in(v, 0, what == 0 ? 3 : 9)) return -1;
        Arm arm = now.arms.get(a);
        int was = what == 0 ? arm.kind : what == 1 ? arm.slack : arm.turns;
        if (what == 0) arm.kind = v;
        if (what == 1) arm.slack = v;
        if (what == 2) arm.turns = v;
        return was;
    }

    int hang(int kind, int slack) {
        if (!in(kind, 0, 3) || !in(slack, 0, 9)) return -1;
        int size = now.arms.size();
        if (size == 4) return -3;
        now.arms.add(new Arm(kind, slack, size == 0 ? now.hand : now.arms.get(size - 1).at));
        return size + 1;
    }

    int cut(int n) {
        int had = now.arms.size();
        if (!in(n, 0, had)) return -1;
        now.arms.subList(n, had).clear();
        return had;
    }

    int set(int i, int v) {
        if (!in(i, 0, now.strokes.size() - 1) || !in(v, 0, 18)) return -1;
        return now.strokes.set(i, v - 9) + 9;
    }

    int add(int v) {
        if (!in(v, 0, 18)) return -1;
        if (now.strokes.size() == 16) return -3;
        now.strokes.add(v - 9);
        return now.strokes.size();
    }

    int drop(int n) {
        int had = now.strokes.size();
        if (!in(n, 0, had)) return -1;
        now.strokes.subList(n, had).clear();
        return had;
    }

    int pull(int v) {
        return in(v, 0, 18) ? now.move(v - 9).error() : -1;
    }

    int steps(int n) {
        if (!in(n, 0, 100)) return -1;
        if (now.step + n > 9999) return -3;
        now = now.many(n);
        return now.moved;
    }

    int runs(int n, int what) {
        if (!in(n, 0, 200) || !in(what, 0, 4)) return -1;
        World then = now.many(n);
        int most = 0;
        World w = now.copy();
        for (int i = 0; i <= n; i++) {
            most = Math.max(most, w.error());
            w.one();
        }
        return new int[] {then.moved, 200000 + then.hand, then.error(), most, then.turned}[what];
    }

    int ahead(int a, int n) {
        if (noArm(a) || !in(n, 0, 200)) return -1;
        return 200000 + now.many(n).arms.get(a).at;
    }

    int when(int a, int v) {
        if (noArm(a) || !in(v, 100000, 300000)) return -1;
        int start = now.arms.get(a).at + 200000;
        World w = now.copy();
        for (int n = 0; n <= 200; n++) {
            int at = w.arms.get(a).at + 200000;
            if (at == v || (start < v && at > v) || (start > v && at < v)) return n;
            w.one();
        }
        return -4;
    }

    private static String stance(World w) {
        StringBuilder s = new StringBuilder();
        s.append(w.strokes.isEmpty() ? 0 : w.step % w.strokes.size());
        for (Arm a : w.arms) {
            s.append('/').append(a.at - w.hand).append(',').append(a.way).append(',').append(a.turns);
        }
        return s.toString();
    }

    int again() {
        World w = now.copy();
        for (int n = 1; n <= 200; n++) {
            if (stance(w.one()).equals(stance(now))) return n;
        }
        return -4;
    }

    int slack(int a, int n, int what) {
        if (noArm(a) || !in(n, 0, 200) || !in(what, 0, 1)) return -1;
        int best = -1, least = 1 << 30;
        for (int s = 9; s >= 0; s--) {
            int error = withSlack(a, s).many(n).error();
            if (error <= least) {
                least = error;
                best = s;
            }
        }
        return what == 0 ? best : least;
    }

    private World withSlack(int a, int s) {
        World w = now.copy();
        w.arms.get(a).slack = s;
        return w;
    }

    private World withKind(int a, int k) {
        World w = now.copy();
        w.arms.get(a).kind = k;
        return w;
    }

    int kind(int a, int n, int what) {
        if (noArm(a) || !in(n, 0, 200) || !in(what, 0, 1)) return -1;
        int best = -1, least = 1 << 30;
        for (int k = 3; k >= 0; k--) {
            int error = withKind(a, k).many(n).error();
            if (error <= least) {
                least = error;
                best = k;
            }
        }
        return what == 0 ? best : least;
    }

    int swap(int n, int what) {
        if (!in(n, 0, 200) || !in(what, 0, 1)) return -1;
        int asItIs = now.many(n).error();
        int best = -4, least = asItIs;
        for (int code = 1; code <= 23; code++) {
            int i = code / 10, j = code % 10;
            if (i >= j || j >= now.arms.size()) continue;
            World w = now.copy();
            Arm p = w.arms.get(i), q = w.arms.get(j);
            Arm was = p.copy();
            p.kind = q.kind;
            p.slack = q.slack;
            p.turns = q.turns;
            q.kind = was.kind;
            q.slack = was.slack;
            q.turns = was.turns;
            int error = w.many(n).error();
            if (error < least) {
                least = error;
                best = code;
            }
        }
        return best < 0 || what == 0 ? best : least;
    }

    int miss(int n, int what) {
        if (!in(n, 0, 200) || !in(what, 0, 1)) return -1;
        int best = -4, least = now.many(n).error();
        for (int i = 0; i < now.strokes.size(); i++) {
            World w = now.copy();
            w.strokes.set(i, 0);
            int error = w.many(n).error();
            if (error < least) {
                least = error;
                best = i;
            }
        }
        return best < 0 || what == 0 ? best : least;
    }

    int lead(int n, int what) {
        if (!in(n, 0, 200) || !in(what, 0, 1)) return -1;
        int best = -1, least = 1 << 30;
        for (int v = 0; v <= 18; v++) {
            World w = now.copy().move(v - 9);
            int most = 0;
            for (int i = 1; i <= n; i++) most = Math.max(most, w.one().error());
            if (most < least) {
                least = most;
                best = v;
            }
        }
        return what == 0 ? best : least;
    }

    /** ERRORS behind n STEPS, each with how many ways in ten to the n lead to it. */
    private static void spread(World w, int v, int n, long weight, Map<Integer, BigInteger> out) {
        if (n == 0) {
            out.merge(w.error(), BigInteger.valueOf(weight), BigInteger::add);
            return;
        }
        World missed = w.copy();
        missed.step++;
        spread(missed, v, n - 1, weight * v, out);
        spread(w.copy().one(), v, n - 1, weight * (10 - v), out);
    }

    private static long part(BigInteger over, int n, int what) {
        BigInteger under = BigInteger.TEN.pow(n);
        BigInteger common = over.gcd(under);
        return (what == 0 ? over : under).divide(common).longValueExact();
    }

    long luck(int v, int e, int n, int what) {
        if (!in(v, 0, 10) || !in(e, 0, 99) || !in(n, 0, 8) || !in(what, 0, 1)) return -1;
        Map<Integer, BigInteger> out = new HashMap<>();
        spread(now, v, n, 1, out);
        BigInteger sum = BigInteger.ZERO;
        for (Map.Entry<Integer, BigInteger> x : out.entrySet()) {
            if (x.getKey() <= e) sum = sum.add(x.getValue());
        }
        return part(sum, n, what);
    }

    long mean(int v, int n, int what) {
        if (!in(v, 0, 10) || !in(n, 0, 8) || !in(what, 0, 1)) return -1;
        Map<Integer, BigInteger> out = new HashMap<>();
        spread(now, v, n, 1, out);
        BigInteger sum = BigInteger.ZERO;
        for (Map.Entry<Integer, BigInteger> x : out.entrySet()) {
            sum = sum.add(x.getValue().multiply(BigInteger.valueOf(x.getKey())));
        }
        return part(sum, n, what);
    }

    int see(int n, int a, int v) {
        if (!in(n, 0, 40) || noArm(a) || !in(v, 100000, 300000)) return -1;
        if (seen.size() == 6) return -3;
        seen.add(new int[] {n, a, v - 200000});
        return seen.size();
    }

    int forget(int n) {
        int had = seen.size();
        if (!in(n, 0, had)) return -1;
        seen.subList(n, had).clear();
        return had;
    }

    private boolean asSeen(World w) {
        for (int[] s : seen) {
            if (s[1] >= w.arms.size() || w.many(s[0]).arms.get(s[1]).at != s[2]) return false;
        }
        return true;
    }

    int kinds(int a) {
        if (noArm(a)) return -1;
        int bits = 0;
        for (int k = 0; k <= 3; k++) bits += asSeen(withKind(a, k)) ? 1 << k : 0;
        return bits;
    }

    int slacks(int a) {
        if (noArm(a)) return -1;
        int bits = 0;
        for (int s = 0; s <= 9; s++) bits += asSeen(withSlack(a, s)) ? 1 << s : 0;
        return bits;
    }

    int ask(int a, int what) {
        if (noArm(a) || !in(what, 0, 1)) return -1;
        int bits = slacks(a);
        int least = Integer.bitCount(bits), best = -4;
        for (int n = 0; n <= 40; n++) {
            Map<Integer, Integer> groups = new HashMap<>();
            for (int s = 0; s <= 9; s++) {
                if ((bits >> s & 1) == 0) continue;
                World w = withSlack(a, s).many(n);
                groups.merge(w.arms.get(w.arms.size() - 1).at, 1, Integer::sum);
            }
            int worst = groups.values().stream().mapToInt(x -> x).max().orElse(0);
            if (worst < least) {
                least = worst;
                best = n;
            }
        }
        return best < 0 || what == 0 ? best : least;
    }

    int drift(int seed, int n, int what) {
        if (!in(n, 1, 200) || !in(what, 0, 1)) return -1;
        if (now.arms.isEmpty()) return -2;
        BigInteger s = BigInteger.valueOf(seed);
        World w = now.copy();
        for (int i = 0; i < n; i++) {
            s = s.multiply(BigInteger.valueOf(1103515245)).add(BigInteger.valueOf(12345));
            int got = s.shiftRight(16).and(BigInteger.valueOf(32767)).intValue();
            w.move(got % 19 - 9);
        }
        return what == 0 ? w.error() : w.moved;
    }

    int keep(int k) {
        if (!in(k, 0, 1)) return -1;
        int was = images[k] == null ? 0 : 1;
        images[k] = now.copy();
        return was;
    }

    int back(int k) {
        if (!in(k, 0, 1)) return -1;
        if (images[k] == null) return -2;
        now = images[k].copy();
        return now.step;
    }

    int sheet(int k, int lane, int n) {
        if (!in(k, 0, 3) || !in(lane, 0, 2) || n > 40) return -1;
        try {
            sheets[k] = lane == 0 ? new byte[n] : lane == 1 ? new short[n] : new int[n];
            return 1;
        } catch (NegativeArraySizeException e) {
            return -14;
        }
    }

    int lay(int k, int i, int v) {
        if (!in(k, 0, 3)) return -1;
        try {
            Object row = sheets[k];
            if (row instanceof byte[] bytes) bytes[i] = (byte) v;
            else if (row instanceof short[] shorts) shorts[i] = (short) v;
            else ((int[]) row)[i] = v;
            return 1;
        } catch (NullPointerException e) {
            return -11;
        } catch (ArrayIndexOutOfBoundsException e) {
            return -12;
        }
    }

    int read(int k, int lane, int f, int n) {
        if (!in(k, 0, 3) || !in(lane, 0, 2) || !in(n, 0, 40)) return -1;
        int had = now.strokes.size();
        int i = 0;
        int found = 0;
        try {
            for (; i < n; i++) {
                Object row = sheets[k];
                int v = lane == 0 ? ((byte[]) row)[f + i] : lane == 1 ? ((short[]) row)[f + i] : ((int[]) row)[f + i];
                if (add(v) < 0) {
                    drop(had);
                    return -20 - i;
                }
            }
        } catch (NullPointerException e) {
            found = 1;
        } catch (ArrayIndexOutOfBoundsException e) {
            found = 2;
        } catch (ClassCastException e) {
            found = 3;
        }
        torn = found;
        return i;
    }

    int torn() {
        return torn;
    }

    int count(int what) {
        return switch (what) {
            case 0 -> seen.size();
            case 1 -> (images[0] == null ? 0 : 1) + (images[1] == null ? 0 : 1);
            case 2 -> tape.length();
            case 3 -> sheets[0] == null ? -4 : java.lang.reflect.Array.getLength(sheets[0]);
            case 4 -> now.arms.stream().mapToInt(a -> a.slack).sum();
            case 5 -> now.arms.stream().mapToInt(a -> a.turns).sum();
            default -> -1;
        };
    }
}
