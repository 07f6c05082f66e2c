import java.util.Random;

/** Runs of up to 512 calls by chance (a fixed seed), each answer held against the model's. */
public final class ModelTest {
    private static final int NONE = -1;
    private static final int RUNS = 400, CALLS = 512;

    private static final Random CHANCE = new Random(20261118);
    private static int wrong = 0;

    /** A number from low to high, now and then one beyond. */
    static int some(int low, int high) {
        int kind = CHANCE.nextInt(40);
        if (kind == 0) return low - 1;
        if (kind == 1) return high + 1;
        if (kind == 2) return Integer.MIN_VALUE;
        if (kind == 3) return Integer.MAX_VALUE;
        return low + CHANCE.nextInt(high - low + 1);
    }

    static String someMine() {
        int n = 2 + CHANCE.nextInt(5);
        String signs = CHANCE.nextInt(3) == 0 ? ".." : CHANCE.nextBoolean() ? "...d" : ".dsbw";
        StringBuilder text = new StringBuilder();
        for (int c = 0; c < n; c++) {
            text.append(c == 0 ? "" : ",").append(signs.charAt(CHANCE.nextInt(signs.length())));
            text.append(CHANCE.nextInt(n)).append(CHANCE.nextInt(n));
        }
        text.append(';').append(1 + CHANCE.nextInt(9));
        if (CHANCE.nextInt(3) == 0) {
            int place = CHANCE.nextInt(text.length());
            text.setCharAt(place, ".dsbw,;0123456789x".charAt(CHANCE.nextInt(18)));
        }
        if (CHANCE.nextInt(10) == 0) text.append(',');
        return text.toString();
    }

    static void same(int run, String call, long got, long want) {
        if (got != want) {
            wrong++;
            if (wrong <= 20) System.out.println("run " + run + ": " + call + " answered " + got + ", the model " + want);
        }
    }

    static int writeMine(int run, LanternTongue x, Model m) {
        String text = someMine();
        same(run, "blank()", x.blank(), m.blank());
        for (char sign : text.toCharArray()) {
            same(run, "letter(" + (int) sign + ")", x.letter(sign), m.letter(sign));
        }
        same(run, "fault() of " + text, x.fault(), m.fault());
        same(run, "mine() of " + text, x.mine(), m.mine());
        return text.length() + 3;
    }

    static void call(int run, LanternTongue x, Model m) {
        int c = some(0, 5), d = some(0, 5), p = some(0, 2), q = some(0, 2), way = some(0, 1);
        int sound = some(0, 2), what, steps = some(1, 60), seed = some(0, 1 << 20), told = m.heard.isEmpty() ? NONE : way;
        switch (CHANCE.nextInt(29)) {
            case 0: same(run, "letter", x.letter(what = some(1, 126)), m.letter(what)); break;
            case 1: same(run, "fault", x.fault(), m.fault()); break;
            case 2: same(run, "mine", x.mine(), m.mine()); break;
            case 3: same(run, "crossing", x.crossing(c, what = some(0, 5)), m.crossing(c, what)); break;
            case 4: same(run, "as", x.as(c, what = some(0, 4)), m.as(c, what)); break;
            case 5: same(run, "party", x.party(c), m.party(c)); break;
            case 6: same(run, "about", x.about(p, what = some(0, 4)), m.about(p, what)); break;
            case 7: case 8: case 9: same(run, "step", x.step(p, way), m.step(p, way)); break;
            case 10: same(run, "speak", x.speak(p), m.speak(p)); break;
            case 11: same(run, "look", x.look(p), m.look(p)); break;
            case 12: same(run, "fill", x.fill(p), m.fill(p)); break;
            case 13: same(run, "way", x.way(c, d, what = some(0, 2)), m.way(c, d, what)); break;
            case 14: same(run, "round", x.round(c, what = some(0, 1)), m.round(c, what)); break;
            case 15: same(run, "meet", x.meet(p, q), m.meet(p, q)); break;
            case 16: same(run, "apart", x.apart(c, d, what = some(0, 1)), m.apart(c, d, what)); break;
            case 17: case 18: case 19: same(run, "hear", x.hear(told, sound), m.hear(told, sound)); break;
            case 20: same(run, "hear", x.hear(way, sound), m.hear(way, sound)); break;
            case 21: if (CHANCE.nextInt(6) == 0) same(run, "forget", x.forget(), m.forget()); break;
            case 22: same(run, "where", x.where(), m.where()); break;
            case 23: same(run, "next", x.next(), m.next()); break;
            case 24: same(run, "walks", x.walks(c, steps, seed, what = some(0, 3)), m.walks(c, steps, seed, what)); break;
            case 25: same(run, "image", x.image(), m.image()); break;
            case 26: same(run, "restore", x.restore(), m.restore()); break;
            case 27: same(run, "count", x.count(what = some(0, 8)), m.count(what)); break;
            default: if (CHANCE.nextInt(4) == 0) same(run, "digest", x.digest(), m.digest()); break;
        }
    }

    public static void main(String[] args) {
        for (int run = 0; run < RUNS; run++) {
            LanternTongue x = new LanternTongue();
            Model m = new Model();
            int calls = 0;
            while (calls < CALLS - 40) {
                if (CHANCE.nextInt(80) == 0 || calls == 0 && run % 4 != 0) {
                    calls += writeMine(run, x, m);
                    same(run, "digest", x.digest(), m.digest());
                } else {
                    call(run, x, m);
                }
                calls++;
            }
            same(run, "digest", x.digest(), m.digest());
        }
        System.out.println(wrong == 0 ? "the class and the model agree" : wrong + " answers are not the model's");
        if (wrong != 0) System.exit(1);
    }
}
