/** What the tests share: answers against what is due, texts fed byte by byte. */
final class Checks {
    private static int asked = 0;
    private static int wrong = 0;

    /** Far more than the longest test takes: a call that doesn't end must fail, not hang. */
    private static final long MOST_MILLIS = 300_000;

    static {
        Thread watch = new Thread(Checks::stopIfItDoesNotEnd);
        watch.setDaemon(true);
        watch.start();
    }

    private Checks() {}

    private static void stopIfItDoesNotEnd() {
        try {
            Thread.sleep(MOST_MILLIS);
        } catch (InterruptedException e) {
            return;
        }
        System.out.println("a call did not come to an end");
        Runtime.getRuntime().halt(1);
    }

    static void due(String call, long got, long want) {
        asked++;
        if (got != want) {
            wrong++;
            System.out.println(call + " answered " + got + ", due is " + want);
        }
    }

    static void holds(String what, boolean so) {
        due(what, so ? 1 : 0, 1);
    }

    static void feed(SlackArms x, String bytes) {
        for (int i = 0; i < bytes.length(); i++) {
            x.feed(bytes.charAt(i));
        }
    }

    static int text(SlackArms x, String bytes) {
        feed(x, bytes);
        return x.text();
    }

    static SlackArms told(String bytes) {
        SlackArms x = new SlackArms();
        if (text(x, bytes) < 0) {
            throw new IllegalStateException("the test's own text is refused: " + bytes);
        }
        return x;
    }

    /** All that calls can tell of an object without changing it, in one text. */
    static String state(SlackArms x) {
        StringBuilder out = new StringBuilder();
        for (int what = 0; what <= 5; what++) {
            out.append(" r").append(x.rule(what)).append(" c").append(x.count(what));
        }
        for (int a = 0; a < x.rule(0); a++) {
            for (int what = 0; what <= 5; what++) {
                out.append(" a").append(x.arm(a, what));
            }
        }
        for (int i = 0; i < x.rule(1); i++) {
            out.append(" s").append(x.stroke(i));
        }
        return out.append(" f").append(x.fault()).append(" t").append(x.torn()).toString();
    }

    static void finish() {
        System.out.println(asked + " answers asked, " + wrong + " wrong");
        if (wrong != 0 || asked == 0) {
            System.exit(1);
        }
    }
}
