/**
 * Arms with play: a hand that moves by a row of strokes, and arms one behind another, each led by
 * the one ahead of it through the play between them.
 *
 * <p>Every call tests its numbers first and answers BAD, STATE, FULL or NONE, the first that fits;
 * nothing here throws. Questions are answered on a trial gear, so that they change nothing.
 */
public final class SlackArms {
    public static final int BAD = -1, STATE = -2, FULL = -3, NONE = -4;

    private static final int MOST_ARMS = 4;
    private static final int MOST_STROKES = 16;
    private static final int MOST_KIND = 3;
    private static final int MOST_SLACK = 9;
    private static final int MOST_TURNS = 9;
    private static final int MOST_STROKE = 9;
    private static final int MOST_BYTES = 160;
    private static final int MOST_SEEN = 6;
    private static final int MOST_LOOK = 40;
    private static final int MOST_AHEAD = 200;
    private static final int MOST_AT_ONCE = 100;
    private static final int MOST_MISSED = 8;
    private static final int STEP_LIMIT = 10000;
    private static final int IMAGES = 2;
    private static final int SHEETS = 4;
    private static final int MOST_LANE = 2;
    private static final int MOST_CELLS = 40;

    /** Answers are never below 0 where a place is told: places are told by so much more. */
    private static final int PLACE_BASE = 200000;
    private static final int LEAST_PLACE = 100000;
    private static final int MOST_PLACE = 300000;
    private static final int STROKE_BASE = 10;
    private static final int FAULT_BASE = -10;
    private static final int REFUSED_BASE = -20;
    private static final int MORE_THAN_ANY_ERROR = 1000000;

    private static final int KIND = 0;
    private static final int SLACK = 1;
    private static final int TURNS = 2;

    private final Gear now = new Gear();
    private final Gear trial = new Gear();
    private final Gear[] images = new Gear[IMAGES];
    private final boolean[] kept = new boolean[IMAGES];
    private final Tape tape = new Tape();
    private final Sights sights = new Sights();
    private final Sheet[] sheets = new Sheet[SHEETS];
    private final int[] looks = new int[(MOST_SLACK + 1) * (MOST_LOOK + 1)];
    private int tornFault = 0;

    public SlackArms() {
        for (int k = 0; k < IMAGES; k++) {
            images[k] = new Gear();
        }
        for (int k = 0; k < SHEETS; k++) {
            sheets[k] = new Sheet();
        }
    }

    // ---- the text, what there is

    public int feed(int c) {
        if (!within(c, 0, 127)) {
            return BAD;
        }
        return tape.append(c) ? tape.length : FULL;
    }

    public int end(int n) {
        if (!within(n, 0, tape.length)) {
            return BAD;
        }
        int had = tape.length;
        tape.length = n;
        return had;
    }

    public int text() {
        int lines = tape.tell(trial);
        if (tape.fault != 0) {
            return FAULT_BASE - tape.faultPlace;
        }
        now.copyFrom(trial);
        sights.size = 0;
        for (int k = 0; k < IMAGES; k++) {
            kept[k] = false;
        }
        return lines;
    }

    public int fault() {
        return tape.fault;
    }

    public int rule(int what) {
        switch (what) {
            case 0:
                return now.arms;
            case 1:
                return now.strokes;
            case 2:
                return now.step;
            case 3:
                return PLACE_BASE + now.hand;
            case 4:
                return now.error();
            case 5:
                return now.strokes == 0 ? NONE : STROKE_BASE + now.strokeRow[now.strokeInTurn()];
            default:
                return BAD;
        }
    }

    public int arm(int a, int what) {
        if (!isArm(a)) {
            return BAD;
        }
        switch (what) {
            case 0:
                return now.kindRow[a];
            case 1:
                return now.slackRow[a];
            case 2:
                return PLACE_BASE + now.placeRow[a];
            case 3:
                return now.turnRow[a];
            case 4:
                return 1 + now.wayRow[a];
            case 5:
                return now.playOf(a);
            default:
                return BAD;
        }
    }

    public int stroke(int i) {
        return isStroke(i) ? STROKE_BASE + now.strokeRow[i] : BAD;
    }

    // ---- what is changed

    public int alter(int a, int what, int v) {
        if (!isArm(a) || !within(what, KIND, TURNS) || !within(v, 0, mostOf(what))) {
            return BAD;
        }
        int was = now.settingOf(a, what);
        now.changeSetting(a, what, v);
        return was;
    }

    public int hang(int kind, int slack) {
        if (!within(kind, 0, MOST_KIND) || !within(slack, 0, MOST_SLACK)) {
            return BAD;
        }
        return now.appendArm(kind, slack) ? now.arms : FULL;
    }

    public int cut(int n) {
        if (!within(n, 0, now.arms)) {
            return BAD;
        }
        int had = now.arms;
        now.arms = n;
        return had;
    }

    public int set(int i, int v) {
        if (!isStroke(i) || !isShiftedStroke(v)) {
            return BAD;
        }
        int was = now.strokeRow[i] + MOST_STROKE;
        now.strokeRow[i] = v - MOST_STROKE;
        return was;
    }

    public int add(int v) {
        if (!isShiftedStroke(v)) {
            return BAD;
        }
        return now.appendStroke(v - MOST_STROKE) ? now.strokes : FULL;
    }

    public int drop(int n) {
        if (!within(n, 0, now.strokes)) {
            return BAD;
        }
        int had = now.strokes;
        now.strokes = n;
        return had;
    }

    public int pull(int v) {
        if (!isShiftedStroke(v)) {
            return BAD;
        }
        now.moveHand(v - MOST_STROKE);
        return now.error();
    }

    // ---- steps

    public int steps(int n) {
        if (!within(n, 0, MOST_AT_ONCE)) {
            return BAD;
        }
        if (now.step + n >= STEP_LIMIT) {
            return FULL;
        }
        now.clearTallies();
        now.takeSteps(n);
        return now.travel;
    }

    public int runs(int n, int what) {
        if (!isAhead(n) || !within(what, 0, 4)) {
            return BAD;
        }
        trial.copyFrom(now);
        int greatest = Math.max(trial.error(), trial.greatestError(n));
        switch (what) {
            case 0:
                return trial.travel;
            case 1:
                return PLACE_BASE + trial.hand;
            case 2:
                return trial.error();
            case 3:
                return greatest;
            default:
                return trial.reversals;
        }
    }

    public int ahead(int a, int n) {
        if (!isArm(a) || !isAhead(n)) {
            return BAD;
        }
        trial.copyFrom(now);
        trial.takeSteps(n);
        return PLACE_BASE + trial.placeRow[a];
    }

    public int when(int a, int v) {
        if (!isArm(a) || !isShiftedPlace(v)) {
            return BAD;
        }
        int place = v - PLACE_BASE;
        int side = Integer.signum(place - now.placeRow[a]);
        if (side == 0) {
            return 0;
        }
        trial.copyFrom(now);
        for (int n = 1; n <= MOST_AHEAD; n++) {
            trial.takeStep();
            if (Integer.signum(place - trial.placeRow[a]) != side) {
                return n;
            }
        }
        return NONE;
    }

    public int again() {
        trial.copyFrom(now);
        for (int n = 1; n <= MOST_AHEAD; n++) {
            trial.takeStep();
            if (trial.standsAs(now)) {
                return n;
            }
        }
        return NONE;
    }

    // ---- what is best

    public int slack(int a, int n, int what) {
        return bestSetting(a, SLACK, n, what);
    }

    public int kind(int a, int n, int what) {
        return bestSetting(a, KIND, n, what);
    }

    public int swap(int n, int what) {
        if (!isAhead(n) || !isFirstOrSecond(what)) {
            return BAD;
        }
        trial.copyFrom(now);
        trial.takeSteps(n);
        int least = trial.error();
        int best = NONE;
        for (int a = 0; a < now.arms; a++) {
            for (int b = a + 1; b < now.arms; b++) {
                trial.copyFrom(now);
                trial.exchange(a, b);
                trial.takeSteps(n);
                int error = trial.error();
                if (error < least) {
                    least = error;
                    best = 10 * a + b;
                }
            }
        }
        return what == 0 || best == NONE ? best : least;
    }

    public int miss(int n, int what) {
        if (!isAhead(n) || !isFirstOrSecond(what)) {
            return BAD;
        }
        trial.copyFrom(now);
        trial.takeSteps(n);
        int least = trial.error();
        int best = NONE;
        for (int i = 0; i < now.strokes; i++) {
            trial.copyFrom(now);
            trial.strokeRow[i] = 0;
            trial.takeSteps(n);
            int error = trial.error();
            if (error < least) {
                least = error;
                best = i;
            }
        }
        return what == 0 || best == NONE ? best : least;
    }

    public int lead(int n, int what) {
        if (!isAhead(n) || !isFirstOrSecond(what)) {
            return BAD;
        }
        int least = MORE_THAN_ANY_ERROR;
        int best = 0;
        for (int v = 0; v <= 2 * MOST_STROKE; v++) {
            trial.copyFrom(now);
            trial.moveHand(v - MOST_STROKE);
            int greatest = trial.greatestError(n);
            if (greatest < least) {
                least = greatest;
                best = v;
            }
        }
        return what == 0 ? best : least;
    }

    // ---- strokes that are missed

    public long luck(int v, int e, int n, int what) {
        if (!areOdds(v, n, what) || !within(e, 0, 99)) {
            return BAD;
        }
        long part = 0;
        for (int missed = 0; missed < 1 << n; missed++) {
            long weight = weightOf(missed, v, n);
            if (weight != 0 && errorMissing(missed, n) <= e) {
                part += weight;
            }
        }
        return ofFraction(part, power(10, n), what);
    }

    public long mean(int v, int n, int what) {
        if (!areOdds(v, n, what)) {
            return BAD;
        }
        long part = 0;
        for (int missed = 0; missed < 1 << n; missed++) {
            long weight = weightOf(missed, v, n);
            if (weight != 0) {
                part += weight * errorMissing(missed, n);
            }
        }
        return ofFraction(part, power(10, n), what);
    }

    // ---- where it was

    public int see(int n, int a, int v) {
        if (!within(n, 0, MOST_LOOK) || !isArm(a) || !isShiftedPlace(v)) {
            return BAD;
        }
        return sights.append(n, a, v - PLACE_BASE) ? sights.size : FULL;
    }

    public int forget(int n) {
        if (!within(n, 0, sights.size)) {
            return BAD;
        }
        int had = sights.size;
        sights.size = n;
        return had;
    }

    public int kinds(int a) {
        return isArm(a) ? settingsAsSeen(a, KIND) : BAD;
    }

    public int slacks(int a) {
        return isArm(a) ? settingsAsSeen(a, SLACK) : BAD;
    }

    public int ask(int a, int what) {
        if (!isArm(a) || !isFirstOrSecond(what)) {
            return BAD;
        }
        int left = settingsAsSeen(a, SLACK);
        lookAhead(a, left);
        int fewest = Integer.bitCount(left);
        int best = NONE;
        for (int n = 0; n <= MOST_LOOK; n++) {
            int worst = mostAlikeBehind(n, left);
            if (worst < fewest) {
                fewest = worst;
                best = n;
            }
        }
        return what == 0 || best == NONE ? best : fewest;
    }

    // ---- by a seed

    public int drift(int seed, int n, int what) {
        if (!within(n, 1, MOST_AHEAD) || !isFirstOrSecond(what)) {
            return BAD;
        }
        if (now.arms == 0) {
            return STATE;
        }
        trial.copyFrom(now);
        int state = seed;
        for (int i = 0; i < n; i++) {
            state = state * 1103515245 + 12345;
            int got = (state >>> 16) & 0x7fff;
            trial.moveHand(got % (2 * MOST_STROKE + 1) - MOST_STROKE);
        }
        return what == 0 ? trial.error() : trial.travel;
    }

    // ---- images, sheets

    public int keep(int k) {
        if (!within(k, 0, IMAGES - 1)) {
            return BAD;
        }
        int was = kept[k] ? 1 : 0;
        images[k].copyFrom(now);
        kept[k] = true;
        return was;
    }

    public int back(int k) {
        if (!within(k, 0, IMAGES - 1)) {
            return BAD;
        }
        if (!kept[k]) {
            return STATE;
        }
        now.copyFrom(images[k]);
        return now.step;
    }

    public int sheet(int k, int lane, int n) {
        if (!isSheet(k) || !within(lane, 0, MOST_LANE) || n > MOST_CELLS) {
            return BAD;
        }
        if (n < 0) {
            return FAULT_BASE - Sheet.SIZE;
        }
        sheets[k].renew(lane, n);
        return 1;
    }

    public int lay(int k, int i, int v) {
        if (!isSheet(k)) {
            return BAD;
        }
        int found = sheets[k].faultAt(i);
        if (found != 0) {
            return FAULT_BASE - found;
        }
        sheets[k].put(i, v);
        return 1;
    }

    public int read(int k, int lane, int f, int n) {
        if (!isSheet(k) || !within(lane, 0, MOST_LANE) || !within(n, 0, MOST_CELLS)) {
            return BAD;
        }
        Sheet from = sheets[k];
        int had = now.strokes;
        int found = 0;
        int came = 0;
        while (came < n && found == 0) {
            // f + came can't run over: a cell beyond the row ends the loop long before.
            found = from.faultTakenAs(lane, f + came);
            if (found == 0) {
                int v = from.cells[f + came];
                if (!isShiftedStroke(v) || !now.appendStroke(v - MOST_STROKE)) {
                    now.strokes = had;
                    return REFUSED_BASE - came;
                }
                came++;
            }
        }
        tornFault = found;
        return came;
    }

    public int torn() {
        return tornFault;
    }

    public int count(int what) {
        switch (what) {
            case 0:
                return sights.size;
            case 1:
                return (kept[0] ? 1 : 0) + (kept[1] ? 1 : 0);
            case 2:
                return tape.length;
            case 3:
                return sheets[0].size == Sheet.NOTHING ? NONE : sheets[0].size;
            case 4:
                return now.sumOf(SLACK);
            case 5:
                return now.sumOf(TURNS);
            default:
                return BAD;
        }
    }

    // ---- which numbers are as told

    private static boolean within(int v, int least, int most) {
        return least <= v && v <= most;
    }

    private static boolean isFirstOrSecond(int what) {
        return within(what, 0, 1);
    }

    private static boolean isAhead(int n) {
        return within(n, 0, MOST_AHEAD);
    }

    private static boolean isShiftedStroke(int v) {
        return within(v, 0, 2 * MOST_STROKE);
    }

    private static boolean isShiftedPlace(int v) {
        return within(v, LEAST_PLACE, MOST_PLACE);
    }

    private static boolean isSheet(int k) {
        return within(k, 0, SHEETS - 1);
    }

    private static boolean areOdds(int v, int n, int what) {
        return within(v, 0, 10) && within(n, 0, MOST_MISSED) && isFirstOrSecond(what);
    }

    private boolean isArm(int a) {
        return within(a, 0, now.arms - 1);
    }

    private boolean isStroke(int i) {
        return within(i, 0, now.strokes - 1);
    }

    private static int mostOf(int setting) {
        if (setting == KIND) {
            return MOST_KIND;
        }
        return setting == SLACK ? MOST_SLACK : MOST_TURNS;
    }

    // ---- trials

    private int bestSetting(int a, int setting, int n, int what) {
        if (!isArm(a) || !isAhead(n) || !isFirstOrSecond(what)) {
            return BAD;
        }
        int least = MORE_THAN_ANY_ERROR;
        int best = 0;
        for (int v = 0; v <= mostOf(setting); v++) {
            trial.copyFrom(now);
            trial.changeSetting(a, setting, v);
            trial.takeSteps(n);
            int error = trial.error();
            if (error < least) {
                least = error;
                best = v;
            }
        }
        return what == 0 ? best : least;
    }

    private int settingsAsSeen(int a, int setting) {
        int bits = 0;
        for (int v = 0; v <= mostOf(setting); v++) {
            trial.copyFrom(now);
            trial.changeSetting(a, setting, v);
            if (sights.agreeWith(trial)) {
                bits |= 1 << v;
            }
        }
        return bits;
    }

    /** Fills looks: for each SLACK that is left, where the last ARM is behind 0, 1, .. STEPS. */
    private void lookAhead(int a, int left) {
        for (int v = 0; v <= MOST_SLACK; v++) {
            if ((left >> v & 1) == 0) {
                continue;
            }
            trial.copyFrom(now);
            trial.changeSetting(a, SLACK, v);
            for (int n = 0; n <= MOST_LOOK; n++) {
                looks[lookIndex(v, n)] = trial.lastPlace();
                trial.takeStep();
            }
        }
    }

    private static int lookIndex(int v, int n) {
        return v * (MOST_LOOK + 1) + n;
    }

    /** Of the SLACKS left, how many at the most would show the last ARM at one and the same place. */
    private int mostAlikeBehind(int n, int left) {
        int most = 0;
        for (int v = 0; v <= MOST_SLACK; v++) {
            if ((left >> v & 1) == 0) {
                continue;
            }
            int alike = 0;
            for (int w = 0; w <= MOST_SLACK; w++) {
                if ((left >> w & 1) != 0 && looks[lookIndex(w, n)] == looks[lookIndex(v, n)]) {
                    alike++;
                }
            }
            most = Math.max(most, alike);
        }
        return most;
    }

    /** ERROR behind n STEPS of which those in the bits of missed are missed. */
    private int errorMissing(int missed, int n) {
        trial.copyFrom(now);
        for (int i = 0; i < n; i++) {
            if ((missed >> i & 1) != 0) {
                trial.step++;
            } else {
                trial.takeStep();
            }
        }
        return trial.error();
    }

    /** In ten to the n, how often just the STEPS in the bits of missed are missed. */
    private static long weightOf(int missed, int v, int n) {
        int times = Integer.bitCount(missed);
        return power(v, times) * power(10 - v, n - times);
    }

    private static long power(int base, int times) {
        long product = 1;
        for (int i = 0; i < times; i++) {
            product *= base;
        }
        return product;
    }

    private static long ofFraction(long part, long whole, int what) {
        long divisor = greatestDivisor(part, whole);
        if (divisor == 0) {
            return 0;
        }
        return what == 0 ? part / divisor : whole / divisor;
    }

    private static long greatestDivisor(long a, long b) {
        long x = a;
        long y = b;
        // Euclid's rows for longs are far shorter than this bound.
        for (int i = 0; i < 200 && y != 0; i++) {
            long rest = x % y;
            x = y;
            y = rest;
        }
        return x;
    }

    /** THE HAND, ARMS, STROKES and STEP: all that an IMAGE holds, and what a trial is run on. */
    private static final class Gear {
        static final int LAG = 1;
        static final int STICK = 2;
        static final int WORN = 3;

        final int[] kindRow = new int[MOST_ARMS];
        final int[] slackRow = new int[MOST_ARMS];
        final int[] placeRow = new int[MOST_ARMS];
        final int[] turnRow = new int[MOST_ARMS];
        final int[] wayRow = new int[MOST_ARMS];
        final int[] strokeRow = new int[MOST_STROKES];
        int arms = 0;
        int strokes = 0;
        int hand = 0;
        int step = 0;
        /** By how much all ARMS moved, without signs, since the tallies were cleared. */
        int travel = 0;
        /** How many times an ARM moved the other way, also where TURNS stays at its most. */
        int reversals = 0;

        Gear() {}

        void empty() {
            arms = 0;
            strokes = 0;
            hand = 0;
            step = 0;
            clearTallies();
        }

        void clearTallies() {
            travel = 0;
            reversals = 0;
        }

        /** What lies behind the last ARM and the last STROKE is never looked at: it isn't copied. */
        void copyFrom(Gear other) {
            arms = other.arms;
            strokes = other.strokes;
            hand = other.hand;
            step = other.step;
            for (int a = 0; a < arms; a++) {
                kindRow[a] = other.kindRow[a];
                slackRow[a] = other.slackRow[a];
                placeRow[a] = other.placeRow[a];
                turnRow[a] = other.turnRow[a];
                wayRow[a] = other.wayRow[a];
            }
            for (int i = 0; i < strokes; i++) {
                strokeRow[i] = other.strokeRow[i];
            }
            clearTallies();
        }

        boolean appendArm(int kind, int slack) {
            if (arms >= MOST_ARMS) {
                return false;
            }
            int place = lastPlace();
            kindRow[arms] = kind;
            slackRow[arms] = slack;
            placeRow[arms] = place;
            turnRow[arms] = 0;
            wayRow[arms] = 0;
            arms++;
            return true;
        }

        boolean appendStroke(int by) {
            if (strokes >= MOST_STROKES) {
                return false;
            }
            strokeRow[strokes] = by;
            strokes++;
            return true;
        }

        int settingOf(int a, int setting) {
            if (setting == KIND) {
                return kindRow[a];
            }
            return setting == SLACK ? slackRow[a] : turnRow[a];
        }

        void changeSetting(int a, int setting, int v) {
            if (setting == KIND) {
                kindRow[a] = v;
            } else if (setting == SLACK) {
                slackRow[a] = v;
            } else {
                turnRow[a] = v;
            }
        }

        void exchange(int a, int b) {
            for (int setting = KIND; setting <= TURNS; setting++) {
                int was = settingOf(a, setting);
                changeSetting(a, setting, settingOf(b, setting));
                changeSetting(b, setting, was);
            }
        }

        int sumOf(int setting) {
            int sum = 0;
            for (int a = 0; a < arms; a++) {
                sum += settingOf(a, setting);
            }
            return sum;
        }

        int playOf(int a) {
            return kindRow[a] == WORN ? slackRow[a] + turnRow[a] : slackRow[a];
        }

        /** Where the last ARM is: THE HAND itself, if there are none, which leads the next one. */
        int lastPlace() {
            return arms == 0 ? hand : placeRow[arms - 1];
        }

        int error() {
            return Math.abs(hand - lastPlace());
        }

        int strokeInTurn() {
            return strokes == 0 ? 0 : step % strokes;
        }

        void takeStep() {
            if (strokes != 0) {
                moveHand(strokeRow[strokeInTurn()]);
            }
            step++;
        }

        void takeSteps(int n) {
            for (int i = 0; i < n; i++) {
                takeStep();
            }
        }

        /** Takes n STEPS: the greatest ERROR behind any of them, 0 if there are none. */
        int greatestError(int n) {
            int greatest = 0;
            for (int i = 0; i < n; i++) {
                takeStep();
                greatest = Math.max(greatest, error());
            }
            return greatest;
        }

        void moveHand(int by) {
            hand += by;
            int leader = hand;
            for (int a = 0; a < arms; a++) {
                moveArm(a, answerTo(beyond(playOf(a), leader - placeRow[a]), kindRow[a]));
                leader = placeRow[a];
            }
        }

        private static int beyond(int play, int off) {
            if (off > play) {
                return off - play;
            }
            return off < -play ? off + play : 0;
        }

        private static int answerTo(int pulled, int kind) {
            if (kind == LAG) {
                return pulled - Integer.signum(pulled);
            }
            boolean sticks = kind == STICK || kind == WORN;
            return sticks && Math.abs(pulled) == 1 ? 0 : pulled;
        }

        private void moveArm(int a, int by) {
            if (by == 0) {
                return;
            }
            int way = Integer.signum(by);
            if (wayRow[a] == -way) {
                reversals++;
                turnRow[a] = Math.min(turnRow[a] + 1, MOST_TURNS);
            }
            wayRow[a] = way;
            placeRow[a] += by;
            travel += Math.abs(by);
        }

        /** Whether all comes again: as far from THE HAND, the same WAYS, TURNS, STROKE in turn. */
        boolean standsAs(Gear other) {
            if (arms != other.arms || strokeInTurn() != other.strokeInTurn()) {
                return false;
            }
            for (int a = 0; a < arms; a++) {
                if (placeRow[a] - hand != other.placeRow[a] - other.hand
                        || wayRow[a] != other.wayRow[a]
                        || turnRow[a] != other.turnRow[a]) {
                    return false;
                }
            }
            return true;
        }
    }

    /** THE TAPE, and the reading of what it tells. */
    private static final class Tape {
        static final int TOKEN_END = 0;
        static final int TOKEN_NONE = 1;
        static final int TOKEN_NAME = 2;
        static final int TOKEN_NUMBER = 3;
        static final int TOKEN_STOP = 4;

        static final int NO_TOKEN = 1;
        static final int MISPLACED = 2;
        static final int OUT_OF_BOUNDS = 3;
        static final int TOO_MANY = 5;

        static final int ON = MOST_KIND + 1;
        static final int BACK = MOST_KIND + 2;

        final byte[] bytes = new byte[MOST_BYTES];
        int length = 0;
        int fault = 0;
        int faultPlace = 0;
        private int token = TOKEN_END;
        private int tokenStart = 0;
        private int tokenEnd = 0;

        Tape() {}

        boolean append(int c) {
            if (length >= MOST_BYTES) {
                return false;
            }
            bytes[length] = (byte) c;
            length++;
            return true;
        }

        /** Fills the gear by the text, up to a FAULT, and leaves THE TAPE empty: how many lines. */
        int tell(Gear gear) {
            gear.empty();
            fault = 0;
            tokenEnd = 0;
            int lines = 0;
            takeToken();
            while (token != TOKEN_END && lines < MOST_BYTES && takeLine(gear)) {
                lines++;
                takeToken();
            }
            length = 0;
            return lines;
        }

        /** Takes a line whose first TOKEN has been read: whether it is without FAULT. */
        private boolean takeLine(Gear gear) {
            if (!stands(TOKEN_NAME)) {
                return false;
            }
            int opening = openingOfLine();
            if (opening < 0) {
                return refuse(MISPLACED);
            }
            if (opening >= ON ? gear.strokes >= MOST_STROKES : gear.arms >= MOST_ARMS) {
                return refuse(TOO_MANY);
            }
            takeToken();
            if (!stands(TOKEN_NUMBER)) {
                return false;
            }
            int number = numberOfToken();
            if (number > (opening >= ON ? MOST_STROKE : MOST_SLACK)) {
                return refuse(OUT_OF_BOUNDS);
            }
            takeToken();
            if (!stands(TOKEN_STOP)) {
                return false;
            }
            return opening < ON
                    ? gear.appendArm(opening, number)
                    : gear.appendStroke(opening == BACK ? -number : number);
        }

        /** Whether the TOKEN is of the sort that can stand here; its FAULT is told, if it isn't. */
        private boolean stands(int sort) {
            if (token == sort) {
                return true;
            }
            return refuse(token == TOKEN_NONE ? NO_TOKEN : MISPLACED);
        }

        private boolean refuse(int found) {
            fault = found;
            faultPlace = tokenStart;
            return false;
        }

        private int openingOfLine() {
            if (tokenIs("plain")) {
                return 0;
            }
            if (tokenIs("lag")) {
                return Gear.LAG;
            }
            if (tokenIs("stick")) {
                return Gear.STICK;
            }
            if (tokenIs("worn")) {
                return Gear.WORN;
            }
            if (tokenIs("on")) {
                return ON;
            }
            return tokenIs("back") ? BACK : -1;
        }

        private boolean tokenIs(String name) {
            if (tokenEnd - tokenStart != name.length()) {
                return false;
            }
            for (int i = 0; i < name.length(); i++) {
                if (bytes[tokenStart + i] != name.charAt(i)) {
                    return false;
                }
            }
            return true;
        }

        private int numberOfToken() {
            int number = 0;
            for (int i = tokenStart; i < tokenEnd; i++) {
                number = number * 10 + bytes[i] - '0';
            }
            return number;
        }

        private void takeToken() {
            int place = tokenEnd;
            while (place < length && bytes[place] == ' ') {
                place++;
            }
            tokenStart = place;
            if (place >= length) {
                tokenEnd = place;
                token = TOKEN_END;
            } else if (bytes[place] == ';') {
                tokenEnd = place + 1;
                token = TOKEN_STOP;
            } else if (within(bytes[place], 'a', 'z')) {
                tokenEnd = endOfRun(place, 'a', 'z');
                token = TOKEN_NAME;
            } else {
                tokenEnd = endOfRun(place, '0', '9');
                int figures = tokenEnd - place;
                token = within(figures, 1, 2) ? TOKEN_NUMBER : TOKEN_NONE;
            }
        }

        private int endOfRun(int start, int least, int most) {
            int place = start;
            while (place < length && within(bytes[place], least, most)) {
                place++;
            }
            return place;
        }
    }

    /** What is SEEN: behind so many STEPS from now on an ARM is at a place. */
    private static final class Sights {
        final int[] stepRow = new int[MOST_SEEN];
        final int[] armRow = new int[MOST_SEEN];
        final int[] placeRow = new int[MOST_SEEN];
        int size = 0;

        Sights() {}

        boolean append(int n, int a, int place) {
            if (size >= MOST_SEEN) {
                return false;
            }
            stepRow[size] = n;
            armRow[size] = a;
            placeRow[size] = place;
            size++;
            return true;
        }

        /** Runs the gear on, as far as anything is SEEN: whether all is so. */
        boolean agreeWith(Gear gear) {
            int last = lastStep();
            for (int n = 0; n <= last; n++) {
                if (n > 0) {
                    gear.takeStep();
                }
                if (!agreeBehind(n, gear)) {
                    return false;
                }
            }
            return true;
        }

        private int lastStep() {
            int last = 0;
            for (int i = 0; i < size; i++) {
                last = Math.max(last, stepRow[i]);
            }
            return last;
        }

        private boolean agreeBehind(int n, Gear gear) {
            for (int i = 0; i < size; i++) {
                if (stepRow[i] != n) {
                    continue;
                }
                int a = armRow[i];
                if (a >= gear.arms || gear.placeRow[a] != placeRow[i]) {
                    return false;
                }
            }
            return true;
        }
    }

    /** A row of CELLS of a lane, or nothing; its FAULTS are found before the machine would. */
    private static final class Sheet {
        static final int NULL = 1;
        static final int INDEX = 2;
        static final int CAST = 3;
        static final int SIZE = 4;

        static final int NOTHING = -1;
        static final int BYTES = 0;
        static final int SHORTS = 1;

        final int[] cells = new int[MOST_CELLS];
        int lane = 0;
        int size = NOTHING;

        Sheet() {}

        void renew(int newLane, int n) {
            lane = newLane;
            size = n;
            for (int i = 0; i < n; i++) {
                cells[i] = 0;
            }
        }

        int faultAt(int i) {
            if (size == NOTHING) {
                return NULL;
            }
            return within(i, 0, size - 1) ? 0 : INDEX;
        }

        /** Nothing can be taken as of any lane: it is found as NULL, not as CAST. */
        int faultTakenAs(int asLane, int i) {
            return size != NOTHING && lane != asLane ? CAST : faultAt(i);
        }

        void put(int i, int v) {
            if (lane == BYTES) {
                cells[i] = (byte) v;
            } else if (lane == SHORTS) {
                cells[i] = (short) v;
            } else {
                cells[i] = v;
            }
        }
    }
}
