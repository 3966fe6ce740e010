import java.lang.reflect.Method;
import java.nio.file.Files;
import java.nio.file.Path;
import java.util.ArrayList;
import java.util.List;
import java.util.Set;
import java.util.TreeSet;
import java.util.regex.Matcher;
import java.util.regex.Pattern;

/** The rows of calls in README.md answer as they say, so that the page does not tell what is not so. */
public final class ReadmeTest {
    private static final Pattern ROW = Pattern.compile("x\\.(\\w+)\\(([^)]*)\\);\\s*// (-?\\d+|[A-Z]+)(:.*)?");
    private static final Pattern NEW = Pattern.compile("DustySayings x = new DustySayings\\(\\);");

    private static DustySayings x;

    public static void main(String[] args) throws Exception {
        Set<String> called = new TreeSet<>();
        for (String row : javaRows(Files.readString(Path.of(System.getProperty("dusty.readme"))))) {
            Matcher m = ROW.matcher(row);
            if (m.matches()) {
                Due.due(row, call(m.group(1), m.group(2)), answer(m.group(3)));
                called.add(m.group(1));
            } else if (NEW.matcher(row).matches()) {
                x = new DustySayings();
            } else {
                Due.dueText("a row of README.md", row, "a call with its answer");
            }
        }
        Due.due("many calls are shown", called.size() > 30 ? 1 : 0, 1);
        Due.finish();
    }

    private static List<String> javaRows(String page) {
        List<String> rows = new ArrayList<>();
        boolean isJava = false;
        for (String line : page.split("\n")) {
            if (line.startsWith("```")) {
                isJava = line.equals("```java");
            } else if (isJava) {
                rows.add(line);
            }
        }
        return rows;
    }

    private static int call(String name, String numbers) throws Exception {
        String[] each = numbers.isEmpty() ? new String[0] : numbers.split(", ");
        Object[] given = new Object[each.length];
        Class<?>[] ints = new Class<?>[each.length];
        for (int i = 0; i < each.length; i++) {
            given[i] = Integer.decode(each[i]);
            ints[i] = int.class;
        }
        Method method = DustySayings.class.getMethod(name, ints);
        return (Integer) method.invoke(x, given);
    }

    private static int answer(String told) throws Exception {
        boolean isName = Character.isLetter(told.charAt(0));
        return isName ? DustySayings.class.getField(told).getInt(null) : Integer.parseInt(told);
    }
}
