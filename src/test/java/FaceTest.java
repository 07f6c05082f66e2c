import java.lang.reflect.Constructor;
import java.lang.reflect.Field;
import java.lang.reflect.Method;
import java.lang.reflect.Modifier;
import java.nio.file.Files;
import java.nio.file.Path;
import java.util.Set;
import java.util.TreeSet;
import java.util.regex.Matcher;
import java.util.regex.Pattern;

/** The class has the document's face and no other, and its text keeps to LANGUAGE.md where words can tell. */
public final class FaceTest {
    private static final String[] FACE = {
        "int letter(int)", "int blank()", "int fault()", "int mine()", "int crossing(int,int)", "int as(int,int)",
        "int party(int)", "int about(int,int)", "int step(int,int)", "int speak(int)", "int look(int)",
        "int fill(int)", "int way(int,int,int)", "int round(int,int)", "int meet(int,int)",
        "int apart(int,int,int)", "int hear(int,int)", "int forget()", "int where()", "int next()",
        "int walks(int,int,int,int)", "int image()", "int restore()", "int count(int)", "long digest()",
        "LanternTongue()", "int NONE", "int UNKNOWN", "int OUTSIDE", "int STATE", "int FULL",
    };
    private static final String[] FORBIDDEN = {
        "\\b(throw|throws|try|catch|synchronized|assert|import|package|native|volatile|transient|var)\\b",
        "->", "::", "\\bstatic\\s*\\{", "\\b(System|Thread|Object|Exception|Random)\\b", "\\bnew\\s+\\w+\\([^)]*\\)\\s*\\{",
        "\\w+Exact\\b", "while\\s*\\(\\s*true", "for\\s*\\(\\s*;\\s*;",
    };

    private static final int MOST_CLASSES = 12, MOST_FIELDS = 20, MOST_PARAMETERS = 7, MOST_LINES = 60;

    private static int wrong = 0;

    private static void report(String what) {
        wrong++;
        System.out.println(what);
    }

    private static String typesOf(Class<?>[] types) {
        StringBuilder text = new StringBuilder("(");
        for (Class<?> type : types) {
            text.append(text.length() > 1 ? "," : "").append(type.getSimpleName());
        }
        return text.append(")").toString();
    }

    private static void testMembers() {
        Set<String> seen = new TreeSet<>();
        for (Method method : LanternTongue.class.getDeclaredMethods()) {
            if (!Modifier.isPrivate(method.getModifiers())) {
                seen.add(method.getReturnType() + " " + method.getName() + typesOf(method.getParameterTypes()));
            }
        }
        for (Constructor<?> made : LanternTongue.class.getDeclaredConstructors()) {
            seen.add("LanternTongue" + typesOf(made.getParameterTypes()));
        }
        for (Field field : LanternTongue.class.getDeclaredFields()) {
            if (!Modifier.isPrivate(field.getModifiers())) {
                seen.add(field.getType() + " " + field.getName());
            }
            if (Modifier.isStatic(field.getModifiers()) && !Modifier.isFinal(field.getModifiers())) {
                report("static state: " + field.getName());
            }
        }
        Set<String> due = new TreeSet<>(Set.of(FACE));
        if (!seen.equals(due)) {
            report("the face is " + seen + ", due is " + due);
        }
        if (!Modifier.isFinal(LanternTongue.class.getModifiers())) {
            report("the class is not final");
        }
    }

    private static void testNames() {
        Set<String> names = new TreeSet<>();
        for (String member : FACE) {
            names.add(member.replaceAll("\\(.*", "").replaceAll(".* ", ""));
        }
        for (Class<?> inside : LanternTongue.class.getDeclaredClasses()) {
            if (!Modifier.isStatic(inside.getModifiers())) {
                report(inside.getName() + " is not static");
            }
            for (Method method : inside.getDeclaredMethods()) {
                if (names.contains(method.getName())) {
                    report(inside.getName() + "." + method.getName() + " bears a name of the face");
                }
            }
        }
        for (Method method : LanternTongue.class.getDeclaredMethods()) {
            if (Modifier.isPrivate(method.getModifiers()) && names.contains(method.getName())) {
                report("the private " + method.getName() + " bears a name of the face");
            }
        }
    }

    private static void testText() throws Exception {
        String text = Files.readString(Path.of("src/main/java/LanternTongue.java"));
        String code = text.replaceAll("(?s)/\\*.*?\\*/", " ").replaceAll("//[^\n]*", " ").replaceAll("\"[^\"\n]*\"", "\"\"");
        for (char sign : text.toCharArray()) {
            if (sign > 126) {
                report("the text has the sign " + (int) sign);
            }
        }
        for (String forbidden : FORBIDDEN) {
            Matcher m = Pattern.compile(forbidden).matcher(code);
            if (m.find()) {
                report("the text has '" + m.group() + "'");
            }
        }
        for (String line : code.split("\n")) {
            // All rows are read by cell() and written by put(), which look at the index first.
            if (Pattern.compile("\\w\\[\\w").matcher(line.replaceAll("\\bnew int\\[", "new int [")).find()
                    && !line.contains("row[index]")) {
                report("an index that cell() or put() does not test: " + line.trim());
            }
        }
    }

    private static void testSizesOf(Class<?> type) {
        int fields = 0;
        for (Field field : type.getDeclaredFields()) {
            fields += Modifier.isStatic(field.getModifiers()) ? 0 : 1;
        }
        if (fields > MOST_FIELDS) {
            report(type.getName() + " has " + fields + " fields");
        }
        for (Method method : type.getDeclaredMethods()) {
            if (method.getParameterCount() > MOST_PARAMETERS) {
                report(type.getName() + "." + method.getName() + " takes " + method.getParameterCount());
            }
        }
    }

    private static void testSizes() throws Exception {
        Class<?>[] inside = LanternTongue.class.getDeclaredClasses();
        if (inside.length + 1 > MOST_CLASSES) {
            report("there are " + (inside.length + 1) + " classes");
        }
        testSizesOf(LanternTongue.class);
        for (Class<?> type : inside) {
            testSizesOf(type);
        }
        testLengths();
    }

    /** A method begins with a line that ends in ") {" and ends with a brace as far in as it began. */
    private static void testLengths() throws Exception {
        String[] lines = Files.readString(Path.of("src/main/java/LanternTongue.java")).split("\n");
        for (int i = 0; i < lines.length; i++) {
            String far = lines[i].replaceAll("\\S.*", "");
            if (lines[i].matches(" {4}( {4})?[a-zA-Z].*\\) \\{")) {
                int end = i;
                while (end < lines.length && !lines[end].equals(far + "}")) {
                    end++;
                }
                if (end - i + 1 > MOST_LINES) {
                    report("a method of " + (end - i + 1) + " lines: " + lines[i].trim());
                }
            }
        }
    }

    public static void main(String[] args) throws Exception {
        testMembers();
        testNames();
        testText();
        testSizes();
        System.out.println(wrong == 0 ? "the face is as due" : wrong + " faults of the face");
        if (wrong != 0) {
            System.exit(1);
        }
    }
}
