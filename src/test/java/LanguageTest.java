import java.lang.management.ManagementFactory;
import java.lang.reflect.Constructor;
import java.lang.reflect.Field;
import java.lang.reflect.Method;
import java.lang.reflect.Modifier;
import java.nio.charset.StandardCharsets;
import java.nio.file.Files;
import java.nio.file.Path;
import java.util.ArrayList;
import java.util.List;
import java.util.Map;
import java.util.Set;
import java.util.TreeMap;
import java.util.TreeSet;
import java.util.regex.Matcher;
import java.util.regex.Pattern;

/** The face of the class, what can be seen of the language's rules, and that calls make no objects. */
public final class LanguageTest {
    private static final String[] METHODS = {"saying 3", "told 2", "as 2", "turns 2", "set 3", "moves 2", "dusts 1",
        "heed 2", "cornerOf 2", "kicks 1", "deal 1", "seed 1", "evenings 1", "room 1", "behind 2", "sinks 1",
        "hears 2", "shine 1", "edge 3", "place 3", "becomes 3", "like 2", "fee 0", "fine 1", "feed 3", "trim 1",
        "text 0", "textTold 2", "why 1", "sheet 3", "mark 3", "pour 1", "reads 1", "copy 5", "lay 3", "ask 2",
        "item 2", "rest 2", "tell 1", "check 1", "keep 0", "back 0", "count 1"};
    private static final String CONSTANTS = "BAD FULL INDEX KIND NO NONE NOTHING SIZE";

    public static void main(String[] args) throws Exception {
        face();
        classesInside();
        source(Files.readString(Path.of(System.getProperty("dusty.source")), StandardCharsets.US_ASCII));
        noObjectsByCalls();
        Due.finish();
    }

    private static void face() {
        Class<?> c = DustySayings.class;
        Due.due("public final", c.getModifiers(), Modifier.PUBLIC | Modifier.FINAL);
        Set<String> want = new TreeSet<>(List.of(METHODS));
        Set<String> names = new TreeSet<>();
        Set<String> got = new TreeSet<>();
        for (String m : METHODS) {
            names.add(m.split(" ")[0]);
        }
        for (Method m : c.getDeclaredMethods()) {
            if (Modifier.isPrivate(m.getModifiers())) {
                Due.due("private " + m.getName() + " bears a public name", names.contains(m.getName()) ? 1 : 0, 0);
                continue;
            }
            got.add(m.getName() + " " + m.getParameterCount());
            boolean ints = m.getReturnType() == int.class && !Modifier.isStatic(m.getModifiers());
            for (Class<?> p : m.getParameterTypes()) {
                ints &= p == int.class;
            }
            Due.due(m.getName() + " is of ints", ints ? 1 : 0, 1);
        }
        Due.dueText("the methods", got.toString(), want.toString());
        Set<String> constants = new TreeSet<>();
        for (Field f : c.getDeclaredFields()) {
            if (!Modifier.isPrivate(f.getModifiers())) {
                constants.add(f.getName());
            }
        }
        Due.dueText("the constants", String.join(" ", constants), CONSTANTS);
        Constructor<?>[] made = c.getDeclaredConstructors();
        Due.due("constructors", made.length, 1);
        Due.due("its parameters", made[0].getParameterCount(), 0);
    }

    private static void classesInside() {
        Class<?>[] inside = DustySayings.class.getDeclaredClasses();
        Due.due("at most twelve classes", inside.length < 12 ? 1 : 0, 1);
        Set<String> names = new TreeSet<>();
        for (String m : METHODS) {
            names.add(m.split(" ")[0]);
        }
        for (Class<?> c : inside) {
            Due.due(c + " is static", Modifier.isStatic(c.getModifiers()) ? 1 : 0, 1);
            int fields = 0;
            for (Field f : c.getDeclaredFields()) {
                boolean isStatic = Modifier.isStatic(f.getModifiers());
                fields += isStatic ? 0 : 1;
                Due.due(f + " is final", isStatic && !Modifier.isFinal(f.getModifiers()) ? 1 : 0, 0);
            }
            Due.due(c + " has at most twenty fields", fields <= 20 ? 1 : 0, 1);
            for (Method m : c.getDeclaredMethods()) {
                Due.due(m + " has at most seven parameters", m.getParameterCount() <= 7 ? 1 : 0, 1);
                Due.due(m + " bears a public name", names.contains(m.getName()) ? 1 : 0, 0);
            }
        }
    }

    private static void source(String text) {
        String code = text.replaceAll("(?s)/\\*.*?\\*/", "").replaceAll("//.*", "")
                .replaceAll("'\\\\?.'", "0").replaceAll("\"[^\"]*\"", "\"\"");
        for (String word : new String[] {"throw", "throws", "try", "catch", "synchronized", "assert", "import",
            "package", "protected", "double", "float", "NaN", "lambda", "equals", "hashCode", "toString"}) {
            Due.due("uses of " + word, many(code, "\\b" + word + "\\b"), 0);
        }
        Due.due("arrows", many(code, "->"), 0);
        Due.due("method references", many(code, "::"), 0);
        Due.due("static blocks", many(code, "static\\s*\\{"), 0);
        Set<String> library = new TreeSet<>();
        Matcher m = Pattern.compile("\\b(Math|Integer|Long|System|Arrays)\\.\\w+").matcher(code);
        while (m.find()) {
            library.add(m.group());
        }
        Due.dueText("the library", library.toString(), "[Integer.bitCount, Math.abs, Math.max, "
                + "Math.min, System.arraycopy]");
        for (int length : methodLengths(text)) {
            Due.due("a method of " + length + " lines", length <= 60 ? 1 : 0, 1);
        }
        Map<String, Set<String>> calls = calls(code);
        for (String name : calls.keySet()) {
            int deep = deepest(name, calls, new TreeSet<>());
            Due.due(name + " goes " + deep + " calls deep: at most eight", deep <= 8 ? 1 : 0, 1);
        }
    }

    /** By a method's name the names that stand in it as calls; methods of one name are taken together. */
    private static Map<String, Set<String>> calls(String code) {
        Map<String, Set<String>> calls = new TreeMap<>();
        Map<String, StringBuilder> bodies = new TreeMap<>();
        String indent = null;
        StringBuilder body = null;
        for (String line : code.split("\n")) {
            Matcher m = Pattern.compile("( {4}| {8})\\w[^=]*?(\\w+)\\([^()]*\\) \\{").matcher(line);
            if (m.matches() && (indent == null || indent.length() >= m.group(1).length())) {
                indent = m.group(1);
                body = bodies.computeIfAbsent(m.group(2), name -> new StringBuilder());
            } else if (body != null) {
                body.append(line).append('\n');
            }
            if (indent != null && line.equals(indent + "}")) {
                indent = null;
                body = null;
            }
        }
        for (String name : bodies.keySet()) {
            Set<String> called = new TreeSet<>();
            Matcher m = Pattern.compile("\\b(\\w+)\\(").matcher(bodies.get(name));
            while (m.find()) {
                if (bodies.containsKey(m.group(1))) {
                    called.add(m.group(1));
                }
            }
            calls.put(name, called);
        }
        Due.due("names of methods seen", calls.size() > 80 ? 1 : 0, 1);
        return calls;
    }

    private static int deepest(String name, Map<String, Set<String>> calls, Set<String> open) {
        int deep = 0;
        open.add(name);
        for (String called : calls.get(name)) {
            if (!open.contains(called)) {
                deep = Math.max(deep, deepest(called, calls, open));
            }
        }
        open.remove(name);
        return 1 + deep;
    }

    private static int many(String code, String pattern) {
        Matcher m = Pattern.compile(pattern).matcher(code);
        int many = 0;
        while (m.find()) {
            many++;
        }
        return many;
    }

    /** Methods stand at four or eight blanks, and end with a brace at the same place. */
    private static List<Integer> methodLengths(String text) {
        List<Integer> lengths = new ArrayList<>();
        String[] lines = text.split("\n");
        for (int i = 0; i < lines.length; i++) {
            Matcher m = Pattern.compile("( {4}| {8})\\w.*\\) \\{").matcher(lines[i]);
            if (!m.matches() || lines[i].trim().matches("(if|for|while|switch|else|return)\\b.*")) {
                continue;
            }
            int end = i;
            while (end < lines.length && !lines[end].equals(m.group(1) + "}")) {
                end++;
            }
            lengths.add(end - i + 1);
        }
        Due.due("methods seen", lengths.size() > 80 ? 1 : 0, 1);
        return lengths;
    }

    /** All calls of a run share one room, so that a call makes nothing: what it needs stands since the beginning. */
    private static void noObjectsByCalls() {
        DustySayings x = new DustySayings();
        for (int i = 0; i < 3; i++) {
            callAll(x);
        }
        com.sun.management.ThreadMXBean threads =
                (com.sun.management.ThreadMXBean) ManagementFactory.getThreadMXBean();
        long id = Thread.currentThread().getId();
        threads.getThreadAllocatedBytes(id);
        long before = threads.getThreadAllocatedBytes(id);
        for (int i = 0; i < 50; i++) {
            callAll(x);
        }
        long made = threads.getThreadAllocatedBytes(id) - before;
        Due.due("few bytes made by calls (" + made + ")", made < 10000 ? 1 : 0, 1);
    }

    private static void callAll(DustySayings x) {
        x.keep();
        x.deal(6);
        x.kicks(50);
        x.feed(0x626c6f6f, 0x6d20772f, 0x392b6e20);
        x.text();
        x.feed(0x66656520, 0x642a2866, 0x2b312920);
        x.text();
        x.evenings(10);
        x.behind(20, 0);
        x.sinks(0);
        x.hears(0, 99);
        x.shine(4);
        x.edge(0, 9, 9);
        x.place(0, 9, 0);
        x.becomes(0, 9, 0);
        x.sheet(0, 1, 9);
        x.sheet(1, 1, 9);
        x.mark(0, 1, 5);
        x.like(0, 0);
        x.fee();
        x.fine(0);
        x.pour(0);
        x.reads(0);
        x.copy(0, 0, 1, 0, 9);
        x.lay(0, 1, 0);
        x.lay(1, 2, 0);
        x.lay(2, 3, 0);
        x.ask(0, 0);
        x.item(1, 0);
        x.rest(2, 3);
        x.tell(1);
        x.check(9);
        x.back();
    }
}
