import java.lang.management.ManagementFactory;
import java.lang.reflect.Constructor;
import java.lang.reflect.Field;
import java.lang.reflect.Method;
import java.lang.reflect.Modifier;
import java.nio.file.Files;
import java.nio.file.Path;
import java.util.ArrayList;
import java.util.Arrays;
import java.util.List;
import java.util.Set;
import java.util.TreeSet;
import java.util.regex.Matcher;
import java.util.regex.Pattern;

/** The rules of LANGUAGE.md that a program can look at, and the document's face. */
public final class LanguageTest {
    private static final String[] FACE = {
        "int feed(int)", "int end(int)", "int text()", "int fault()", "int rule(int)", "int arm(int,int)",
        "int stroke(int)", "int alter(int,int,int)", "int hang(int,int)", "int cut(int)", "int set(int,int)",
        "int add(int)", "int drop(int)", "int pull(int)", "int steps(int)", "int runs(int,int)", "int ahead(int,int)",
        "int when(int,int)", "int again()", "int slack(int,int,int)", "int kind(int,int,int)", "int swap(int,int)",
        "int miss(int,int)", "int lead(int,int)", "long luck(int,int,int,int)", "long mean(int,int,int)",
        "int see(int,int,int)", "int forget(int)", "int kinds(int)", "int slacks(int)", "int ask(int,int)",
        "int drift(int,int,int)", "int keep(int)", "int back(int)", "int sheet(int,int,int)", "int lay(int,int,int)",
        "int read(int,int,int,int)", "int torn()", "int count(int)"
    };

    public static void main(String[] args) throws Exception {
        face();
        members();
        source(withoutCommentsAndTexts(Files.readString(Path.of("src/main/java/SlackArms.java"))));
        room();
        Checks.finish();
    }

    private static String signature(Method m) {
        List<String> types = new ArrayList<>();
        for (Class<?> type : m.getParameterTypes()) {
            types.add(type.getName());
        }
        return m.getReturnType().getName() + " " + m.getName() + "(" + String.join(",", types) + ")";
    }

    private static void face() {
        Set<String> found = new TreeSet<>();
        for (Method m : SlackArms.class.getDeclaredMethods()) {
            if (Modifier.isPublic(m.getModifiers())) {
                found.add(signature(m));
            } else {
                Checks.holds("rule 1: private: " + m, Modifier.isPrivate(m.getModifiers()));
            }
        }
        Set<String> due = new TreeSet<>(Arrays.asList(FACE));
        Checks.holds("rule 1: the methods are " + found, found.equals(due));
        Checks.holds("rule 1: a final class", Modifier.isFinal(SlackArms.class.getModifiers()));
        Checks.due("rule 1: constructors", SlackArms.class.getConstructors().length, 1);
        Set<String> constants = new TreeSet<>();
        for (Field f : SlackArms.class.getDeclaredFields()) {
            if (Modifier.isPublic(f.getModifiers())) {
                constants.add(f.getName());
            } else {
                Checks.holds("rule 1: private: " + f, Modifier.isPrivate(f.getModifiers()));
            }
        }
        Checks.holds("rule 1: the constants", constants.equals(Set.of("BAD", "STATE", "FULL", "NONE")));
    }

    private static List<Class<?>> classes() {
        List<Class<?>> all = new ArrayList<>();
        all.add(SlackArms.class);
        all.addAll(Arrays.asList(SlackArms.class.getDeclaredClasses()));
        return all;
    }

    private static void members() {
        Set<String> names = new TreeSet<>();
        for (String one : FACE) {
            names.add(one.substring(one.indexOf(' ') + 1, one.indexOf('(')));
        }
        Checks.holds("rule 11: twelve classes at most", classes().size() <= 12);
        for (Class<?> c : classes()) {
            Checks.holds("rule 2: static: " + c, c == SlackArms.class || Modifier.isStatic(c.getModifiers()));
            int fields = 0;
            for (Field f : c.getDeclaredFields()) {
                boolean isStatic = Modifier.isStatic(f.getModifiers());
                fields += isStatic ? 0 : 1;
                Checks.holds("rule 5: final: " + f, !isStatic || Modifier.isFinal(f.getModifiers()));
            }
            Checks.holds("rule 11: twenty fields at most: " + c, fields <= 20);
            for (Method m : c.getDeclaredMethods()) {
                Checks.holds("rule 11: seven parameters at most: " + m, m.getParameterCount() <= 7);
                boolean isFace = c == SlackArms.class && Modifier.isPublic(m.getModifiers());
                Checks.holds("rule 1: a name of its own: " + m, isFace || !names.contains(m.getName()));
            }
            for (Constructor<?> k : c.getDeclaredConstructors()) {
                Checks.holds("rule 11: seven parameters at most: " + k, k.getParameterCount() <= 7);
            }
        }
    }

    private static String withoutCommentsAndTexts(String source) {
        return source.replaceAll("(?s)/\\*.*?\\*/", "").replaceAll("//[^\n]*", "").replaceAll("\"[^\"]*\"", "\"\"");
    }

    private static void source(String code) {
        String[] never = {
            "throw", "throws", "try", "catch", "finally", "synchronized", "assert", "package", "import", "native",
            "volatile", "transient", "double", "float", "Object", "Thread", "Random", "equals", "hashCode", "toString",
            "protected", "instanceof"
        };
        for (String word : never) {
            Checks.holds("never in the code: " + word, !Pattern.compile("\\b" + word + "\\b").matcher(code).find());
        }
        Checks.holds("rule 2: no lambda", !code.contains("->") && !code.contains("::"));
        Checks.holds("rule 4: no Exact", !code.contains("Exact"));
        Checks.due("rule 5: no static block", Pattern.compile("static\\s*\\{").matcher(code).results().count(), 0);
        Matcher library = Pattern.compile("\\b(Math|Integer|Long|System|Arrays|String)\\.(\\w+)").matcher(code);
        Set<String> allowed = Set.of("Math.max", "Math.min", "Math.abs", "Integer.signum", "Integer.bitCount");
        while (library.find()) {
            Checks.holds("rule 4: of the library: " + library.group(), allowed.contains(library.group()));
        }
        // A row of one of these classes is made in a constructor or a field alone.
        Matcher made = Pattern.compile("\\n {8,}[^\\n]*\\bnew\\b[^\\n]*").matcher(code);
        while (made.find()) {
            String line = made.group().trim();
            boolean kept = line.startsWith("final ") || line.startsWith("images[k] =") || line.startsWith("sheets[k] =");
            Checks.holds("rule 12: made once: " + line, kept);
        }
        int length = 0;
        for (String line : code.split("\n")) {
            boolean opens = line.matches(" {4}( {4})?[\\w\\[\\] ]+\\([^;]*\\) \\{");
            length = opens ? 1 : length + 1;
            if (line.matches(" {4}( {4})?\\}")) {
                Checks.holds("rule 11: a method of " + length + " lines", length <= 60);
            }
        }
    }

    /** No call makes an object: what a run takes of the room is what its constructors make. */
    private static void room() {
        var threads = (com.sun.management.ThreadMXBean) ManagementFactory.getThreadMXBean();
        long self = Thread.currentThread().getId();
        String text = "worn 1;lag 2;stick 0;plain 3;on 7;back 6;on 2;";
        // The first object lets the machine load what it needs; ten rounds stay below 512 calls.
        long sum = everyCall(Checks.told(text), 10);
        SlackArms x = Checks.told(text);
        long before = threads.getThreadAllocatedBytes(self);
        sum += everyCall(x, 10);
        long made = threads.getThreadAllocatedBytes(self) - before;
        // Looking itself takes a little; ten rounds of all calls with one object each would take more.
        Checks.holds("calls make no objects: " + made + " bytes, " + (sum != 0), made < 10 * 16);
    }

    private static long everyCall(SlackArms x, int rounds) {
        long sum = 0;
        for (int i = 0; i < rounds; i++) {
            sum += x.feed(112) + x.feed(33) + x.end(1) + x.text() + x.fault() + x.rule(4) + x.arm(0, 2) + x.stroke(0);
            sum += x.alter(0, 1, 1) + x.cut(3) + x.hang(0, 3) + x.set(0, 16) + x.add(3) + x.drop(3) + x.pull(12);
            sum += x.steps(3) + x.runs(20, 3) + x.ahead(0, 20) + x.when(0, 200050) + x.again();
            sum += x.slack(0, 20, 0) + x.kind(0, 20, 0) + x.swap(20, 0) + x.miss(20, 0) + x.lead(20, 0);
            sum += x.luck(3, 4, 8, 0) + x.mean(3, 8, 0) + x.see(0, 0, x.arm(0, 2)) + x.kinds(0) + x.slacks(0);
            sum += x.ask(0, 0) + x.forget(0) + x.drift(i, 20, 0) + x.keep(0) + x.back(0) + x.sheet(1, 1, 3);
            sum += x.lay(1, 1, 5) + x.read(1, 1, 0, 5) + x.torn() + x.count(4);
        }
        return sum;
    }
}
