import java.lang.reflect.InvocationTargetException;
import java.lang.reflect.Method;
import java.nio.file.Files;
import java.nio.file.Path;
import java.util.ArrayList;
import java.util.Arrays;
import java.util.Comparator;
import java.util.List;

/** What the tests of the edges share: objects to begin with, answers that are due, calls that are refused. */
abstract class Edges {
    static final int NONE = -1, UNKNOWN = -101, OUTSIDE = -102, STATE = -103, FULL = -104;
    static final int LOW = Integer.MIN_VALUE, HIGH = Integer.MAX_VALUE;
    static final int LEFT = 0, RIGHT = 1;

    /** Every kind once, and each leads on to two others. */
    static final String FIVE = ".12,d23,s34,b40,w01;5";
    static final String LEAST = ".01,.10;1";
    static final String MOST = ".12,d23,s34,b45,w50,.01;9";

    private static int wrong = 0;

    interface Scene {
        LanternTongue made();
    }

    interface Call {
        long on(LanternTongue x);
    }

    interface CallWith {
        long on(LanternTongue x, int number);
    }

    static void due(String what, long got, long want) {
        if (got != want) {
            wrong++;
            System.out.println("  " + what + " answered " + got + ", due is " + want);
        }
    }

    static void write(LanternTongue x, String text) {
        for (char sign : text.toCharArray()) {
            x.letter(sign);
        }
    }

    static LanternTongue written(String text) {
        LanternTongue x = new LanternTongue();
        write(x, text);
        return x;
    }

    static LanternTongue mined(String text) {
        LanternTongue x = written(text);
        due("mine() of " + text, x.mine(), text.length() / 4);
        return x;
    }

    /** A mine with a party at each of the crossings told. */
    static LanternTongue peopled(String text, int... crossings) {
        LanternTongue x = mined(text);
        for (int i = 0; i < crossings.length; i++) {
            due("party(" + crossings[i] + ")", x.party(crossings[i]), i);
        }
        return x;
    }

    static LanternTongue fresh() {
        return new LanternTongue();
    }

    static LanternTongue five() {
        return mined(FIVE);
    }

    /** Two parties that did unlike things, an image that is no longer what is, some heard, a mine on the page. */
    static LanternTongue busy() {
        LanternTongue x = peopled(FIVE, 0);
        x.hear(NONE, 0);
        x.speak(0);
        x.image();
        x.step(0, LEFT);
        x.party(2);
        x.step(1, RIGHT);
        x.speak(1);
        x.step(1, LEFT);
        x.hear(LEFT, 1);
        x.hear(RIGHT, 0);
        write(x, LEAST);
        return x;
    }

    /** As busy, with a third party, the most that can be heard, and no room on the page. */
    static LanternTongue full() {
        LanternTongue x = busy();
        x.party(4);
        for (int n = 4; n <= 8; n++) {
            due("hear " + n, x.hear(LEFT, 0), n);
        }
        for (int n = 10; n <= 28; n++) {
            due("letter " + n, x.letter('.'), n);
        }
        return x;
    }

    /** The call answers the refusal, and an object that heard it is as one made alike that did not. */
    static void refused(String what, int refusal, Scene scene, Call call) {
        LanternTongue x = scene.made();
        due(what, call.on(x), refusal);
        same(what + " has changed what is told", x, scene.made());
    }

    /** The call is refused with each of these numbers. */
    static void refusedWith(String what, int refusal, Scene scene, CallWith call, int... numbers) {
        for (int number : numbers) {
            refused(what + " of " + number, refusal, scene, x -> call.on(x, number));
        }
    }

    /** The call answers this, and is one of those that change nothing. */
    static void told(String what, long answer, Scene scene, Call call) {
        LanternTongue x = scene.made();
        due(what, call.on(x), answer);
        same(what + " has changed what is told", x, scene.made());
    }

    static void same(String what, LanternTongue x, LanternTongue y) {
        List<Long> ofX = allOf(x);
        List<Long> ofY = allOf(y);
        if (!ofX.equals(ofY)) {
            wrong++;
            System.out.println("  " + what + ": " + ofX + ", due is " + ofY);
        }
    }

    /** All that can be told of an object: now, when it has gone on from its image, and from its page. */
    private static List<Long> allOf(LanternTongue x) {
        List<Long> all = new ArrayList<>();
        tellNow(x, all);
        all.add((long) x.restore());
        tellNow(x, all);
        all.add((long) x.mine());
        all.add((long) x.restore());
        tellNow(x, all);
        return all;
    }

    private static void tellNow(LanternTongue x, List<Long> all) {
        for (int what = 0; what <= 8; what++) {
            all.add((long) x.count(what));
        }
        for (int c = 0; c < x.count(0); c++) {
            for (int what = 0; what <= 5; what++) {
                all.add((long) x.crossing(c, what));
            }
        }
        for (int p = 0; p < x.count(2); p++) {
            for (int what = 0; what <= 4; what++) {
                all.add((long) x.about(p, what));
            }
        }
        all.add((long) x.fault());
        all.add((long) x.where());
        all.add((long) x.next());
        all.add(x.digest());
    }

    /** Runs each edge of the class; each promise from first to last must have one. */
    static void run(Class<?> tests, int first, int last) throws Exception {
        String document = plain(Files.readString(Path.of("../shared/DOC.md")));
        int[] edges = new int[27];
        Method[] methods = tests.getDeclaredMethods();
        Arrays.sort(methods, Comparator.comparing(Method::getName));
        for (Method method : methods) {
            Edge edge = method.getAnnotation(Edge.class);
            if (edge != null) {
                edges[edge.promise()]++;
                runOne(method, edge, document);
            }
        }
        int ran = 0;
        for (int promise = first; promise <= last; promise++) {
            due("at least one edge of promise " + promise, Math.min(edges[promise], 1), 1);
            ran += edges[promise];
        }
        System.out.println(ran + " edges of promises " + first + " to " + last + (wrong == 0 ? " hold" : ": not all hold"));
        if (wrong != 0) {
            System.exit(1);
        }
    }

    private static void runOne(Method method, Edge edge, String document) throws IllegalAccessException {
        int before = wrong;
        if (!document.contains(plain(edge.says()))) {
            wrong++;
            System.out.println("  the document does not say: " + edge.says());
        }
        method.setAccessible(true);
        try {
            method.invoke(null);
        } catch (InvocationTargetException thrown) {
            wrong++;
            System.out.println("  threw " + thrown.getCause());
        }
        if (wrong != before) {
            System.out.println("promise " + edge.promise() + ", " + method.getName() + ": " + edge.says());
        }
    }

    private static String plain(String text) {
        return text.replaceAll("\\s+", " ");
    }
}
