import java.io.ByteArrayOutputStream;
import java.io.File;
import java.io.IOException;
import java.nio.file.Files;
import java.nio.file.Path;
import java.util.ArrayList;
import java.util.Collections;
import java.util.Comparator;
import java.util.List;
import java.util.concurrent.ExecutorService;
import java.util.concurrent.Executors;
import java.util.concurrent.TimeUnit;
import java.util.regex.Matcher;
import java.util.regex.Pattern;
import java.util.stream.Stream;
import javax.tools.ToolProvider;

/**
 * Changes the class in one small place at a time, and tells which of the changes the tests do not see. It is run by
 * hand from the project's directory, with the names of the tests: java tools/Mutants.java RowsEdgesTest RefusedTest
 */
public final class Mutants {
    private static final Path CLASS = Path.of("src/main/java/DustySayings.java");
    private static final Path TESTS = Path.of("src/test/java");
    private static final String[][] SIGNS = {{" < ", " <= "}, {" < ", " > "}, {" <= ", " < "}, {" > ", " >= "},
        {" > ", " < "}, {" >= ", " > "}, {" == ", " != "}, {" != ", " == "}, {" && ", " || "}, {" || ", " && "},
        {" + ", " - "}, {" - ", " + "}, {" * ", " + "}, {" % ", " / "}, {" / ", " * "}, {" >>> ", " >> "},
        {"++", "--"}, {" += ", " -= "}, {" |= ", " &= "}, {"Math.max", "Math.min"}, {"Math.min", "Math.max"},
        {"!", ""}, {"true", "false"}, {"false", "true"}, {"(short) ", ""}, {"return BAD", "return NO"},
        {"return NO;", "return BAD;"}, {"return FULL", "return BAD"}, {"return NONE", "return BAD"},
        {"return NOTHING", "return NONE"}, {"return KIND", "return INDEX"}, {"return INDEX", "return KIND"},
        {"return SIZE", "return BAD"}, {": KIND", ": BAD"}, {": BAD", ": NO"}, {"? NO", "? BAD"}};
    private static final Pattern NUMBER = Pattern.compile("(?<![\\w.'])\\d+(?![\\w'])");
    private static final Pattern ACT = Pattern.compile("(?m)^ +(?!return|break|continue|static|private|public|final|int "
            + "|boolean |case|default|String |Sheet |Slot |Room )[\\w.\\[\\]]+.*;$");

    private record Change(int from, int to, String by) {
    }

    private final String source;
    private final Path work;
    private final List<String> unseen = Collections.synchronizedList(new ArrayList<>());

    private Mutants(String source, Path work) {
        this.source = source;
        this.work = work;
    }

    public static void main(String[] tests) throws Exception {
        Mutants mutants = new Mutants(Files.readString(CLASS), Files.createTempDirectory("mutants"));
        mutants.compileTests(tests);
        mutants.tryAll();
        delete(mutants.work);
    }

    private void compileTests(String[] tests) throws IOException {
        StringBuilder all = new StringBuilder("public class All { public static void main(String[] a) throws Exception {");
        for (String test : tests) {
            all.append(test).append(".main(a);");
        }
        Path file = Files.writeString(work.resolve("All.java"), all.append("}}").toString());
        if (!compile(work.resolve("tests"), "-sourcepath", TESTS.toString(), CLASS.toString(), file.toString())) {
            throw new IOException("the tests do not compile");
        }
    }

    private static boolean compile(Path out, String... rest) throws IOException {
        Files.createDirectories(out);
        List<String> options = new ArrayList<>(List.of("-nowarn", "-d", out.toString()));
        options.addAll(List.of(rest));
        ByteArrayOutputStream told = new ByteArrayOutputStream();
        return ToolProvider.getSystemJavaCompiler().run(null, told, told, options.toArray(new String[0])) == 0;
    }

    private void tryAll() throws InterruptedException {
        List<Change> changes = changes(withoutComments(source));
        ExecutorService pool = Executors.newFixedThreadPool(Runtime.getRuntime().availableProcessors());
        for (int i = 0; i < changes.size(); i++) {
            Change change = changes.get(i);
            Path place = work.resolve("change" + i);
            pool.submit(() -> {
                tryOne(change, place);
                return null;
            });
        }
        pool.shutdown();
        pool.awaitTermination(3, TimeUnit.HOURS);
        Collections.sort(unseen);
        unseen.forEach(System.out::println);
        System.out.println(unseen.size() + " of " + changes.size() + " changes are not seen");
    }

    private void tryOne(Change change, Path place) throws IOException, InterruptedException {
        Files.createDirectories(place);
        String changed = source.substring(0, change.from) + change.by + source.substring(change.to);
        Path file = Files.writeString(place.resolve("DustySayings.java"), changed);
        if (compile(place, file.toString()) && pass(place)) {
            unseen.add(told(change));
        }
        delete(place);
    }

    private boolean pass(Path place) throws IOException, InterruptedException {
        String path = place + File.pathSeparator + work.resolve("tests");
        Process run = new ProcessBuilder("java", "-XX:TieredStopAtLevel=1", "-XX:+UseSerialGC", "-cp", path, "All")
                .redirectErrorStream(true).redirectOutput(ProcessBuilder.Redirect.DISCARD).start();
        // a change may make a loop that does not end
        if (!run.waitFor(120, TimeUnit.SECONDS)) {
            run.destroyForcibly();
            return false;
        }
        return run.exitValue() == 0;
    }

    private String told(Change change) {
        long line = 1 + source.substring(0, change.from).chars().filter(c -> c == '\n').count();
        int from = source.lastIndexOf('\n', change.from) + 1;
        String text = source.substring(from, source.indexOf('\n', change.to)).trim();
        String was = source.substring(change.from, change.to).trim();
        return String.format("%5d: %s   [%s -> %s]", line, text, was, change.by.trim());
    }

    private static String withoutComments(String text) {
        return Pattern.compile("(?s)/\\*.*?\\*/|//[^\\n]*").matcher(text)
                .replaceAll(found -> found.group().replaceAll("[^\\n]", " "));
    }

    private static List<Change> changes(String code) {
        List<Change> all = new ArrayList<>();
        for (String[] sign : SIGNS) {
            for (int at = code.indexOf(sign[0]); at >= 0; at = code.indexOf(sign[0], at + 1)) {
                boolean isNot = sign[0].equals("!") && Character.isLetter(code.charAt(at + 1));
                if (isNot || !sign[0].equals("!")) {
                    all.add(new Change(at, at + sign[0].length(), sign[1]));
                }
            }
        }
        Matcher number = NUMBER.matcher(code);
        while (number.find()) {
            long v = Long.parseLong(number.group());
            all.add(new Change(number.start(), number.end(), String.valueOf(v + 1)));
            all.add(new Change(number.start(), number.end(), String.valueOf(v - 1)));
        }
        Matcher act = ACT.matcher(code);
        while (act.find()) {
            all.add(new Change(act.start(), act.end(), ";"));
        }
        return all;
    }

    private static void delete(Path place) throws IOException {
        try (Stream<Path> files = Files.walk(place)) {
            files.sorted(Comparator.reverseOrder()).forEach(file -> file.toFile().delete());
        }
    }
}
