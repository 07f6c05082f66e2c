import java.lang.reflect.Method;
import java.lang.reflect.Modifier;
import java.nio.file.Files;
import java.nio.file.Path;
import java.util.ArrayList;
import java.util.List;
import java.util.Set;
import java.util.TreeSet;
import java.util.regex.Matcher;
import java.util.regex.Pattern;

/** README.md tells the truth: its example is run, and its table of calls is held against the document. */
public final class ReadmeTest {
    private static final Pattern TEXT = Pattern.compile("for \\(char sign : \"([^\"]*)\"");
    private static final Pattern CALL = Pattern.compile("^x\\.(\\w+)\\(([^)]*)\\);\\s*// (-?\\d+)\\b.*$");
    private static final Pattern ROW = Pattern.compile("^\\| `(\\w+\\([^)]*\\))` \\| ([^|]*) \\| ([^|]*)\\|$");
    private static final Pattern PROMISE = Pattern.compile("(?m)^`(?:int|long) (\\w+\\([^)]*\\))`: (.*)$");
    private static final Pattern REFUSAL = Pattern.compile("\\b(UNKNOWN|OUTSIDE|STATE|FULL)\\b");

    private static int wrong = 0;

    private static void report(String what) {
        wrong++;
        System.out.println(what);
    }

    private static long answer(LanternTongue x, String name, String told) throws Exception {
        String[] numbers = told.isEmpty() ? new String[0] : told.split(",\\s*");
        Object[] arguments = new Object[numbers.length];
        Class<?>[] types = new Class<?>[numbers.length];
        for (int i = 0; i < numbers.length; i++) {
            arguments[i] = Integer.valueOf(numbers[i]);
            types[i] = int.class;
        }
        return ((Number) LanternTongue.class.getMethod(name, types).invoke(x, arguments)).longValue();
    }

    private static void testExample(List<String> lines) throws Exception {
        LanternTongue x = new LanternTongue();
        int calls = 0;
        for (String line : lines) {
            Matcher text = TEXT.matcher(line);
            if (text.find()) {
                for (char sign : text.group(1).toCharArray()) x.letter(sign);
            }
            Matcher call = CALL.matcher(line);
            if (call.find()) {
                calls++;
                long got = answer(x, call.group(1), call.group(2));
                if (got != Long.parseLong(call.group(3))) report(line + " answered " + got);
            } else if (line.startsWith("x.")) {
                report("no answer is told: " + line);
            }
        }
        if (calls == 0) report("there is no example");
    }

    private static List<String> refusalsIn(String text) {
        List<String> found = new ArrayList<>();
        Matcher m = REFUSAL.matcher(text);
        while (m.find()) found.add(m.group());
        return found;
    }

    private static String withoutTypes(String call) {
        return call.replaceAll("\\bint ", "");
    }

    /** A row for each promise that is a call, with the same refusals in the same order. */
    private static void testTable(List<String> lines, String document) {
        List<String> due = new ArrayList<>();
        Matcher promise = PROMISE.matcher(document);
        while (promise.find()) due.add(withoutTypes(promise.group(1)) + " " + refusalsIn(promise.group(2)));
        List<String> told = new ArrayList<>();
        for (String line : lines) {
            Matcher row = ROW.matcher(line);
            if (row.matches()) told.add(row.group(1) + " " + refusalsIn(row.group(3)));
        }
        if (!told.equals(due)) report("the table tells " + told + ", due is " + due);
        testNames(told);
    }

    private static void testNames(List<String> told) {
        Set<String> names = new TreeSet<>();
        for (String row : told) names.add(row.replaceAll("\\(.*", ""));
        Set<String> face = new TreeSet<>();
        for (Method method : LanternTongue.class.getDeclaredMethods()) {
            if (Modifier.isPublic(method.getModifiers())) face.add(method.getName());
        }
        if (!names.equals(face)) report("the table names " + names + ", due is " + face);
    }

    /** Every test of the project is told of. */
    private static void testTests(String readme) throws Exception {
        try (var files = Files.list(Path.of("src/test/java"))) {
            for (Path file : files.toList()) {
                String name = file.getFileName().toString().replace(".java", "");
                if (!readme.contains("`" + name + "`")) report("nothing is told of " + name);
            }
        }
    }

    public static void main(String[] args) throws Exception {
        String readme = Files.readString(Path.of("README.md"));
        List<String> lines = readme.lines().toList();
        testExample(lines);
        testTable(lines, Files.readString(Path.of("../shared/DOC.md")));
        testTests(readme);
        System.out.println(wrong == 0 ? "README.md is as due" : wrong + " faults of README.md");
        if (wrong != 0) System.exit(1);
    }
}
