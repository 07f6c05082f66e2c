import java.util.ArrayDeque;
import java.util.ArrayList;
import java.util.Deque;
import java.util.HashSet;
import java.util.List;
import java.util.Set;
import java.util.TreeSet;
import java.util.regex.Matcher;
import java.util.regex.Pattern;

/**
 * A second, slow telling of the document: searches by trying all steps, parties as lists of what they did.
 * It shares no line with the class, so that a slip in one shows against the other.
 */
final class Model {
    private static final int NONE = -1, UNKNOWN = -101, OUTSIDE = -102, STATE = -103, FULL = -104;

    interface Moves<S> {
        S after(S state, int move);
    }

    interface Goal<S> {
        boolean at(S state);
    }

    /** The first of the shortest words of moves to a goal, in the order of the moves; null: none. */
    static <S> String shortest(S start, int moves, Moves<S> go, Goal<S> goal) {
        Deque<S> states = new ArrayDeque<>();
        Deque<String> words = new ArrayDeque<>();
        Set<S> known = new HashSet<>();
        states.add(start);
        words.add("");
        known.add(start);
        while (!states.isEmpty()) {
            S state = states.remove();
            String word = words.remove();
            if (goal.at(state)) {
                return word;
            }
            for (int move = 0; move < moves; move++) {
                S there = go.after(state, move);
                if (known.add(there)) {
                    states.add(there);
                    words.add(word + move);
                }
            }
        }
        return null;
    }

    static int lengthOf(String word) {
        return word == null ? NONE : word.length();
    }

    static int firstOf(String word) {
        return word == null || word.isEmpty() ? NONE : word.charAt(0) - '0';
    }

    /** A party by what it did: its OIL, and a word of steps (S) and talk (T). */
    static final class Folk {
        int at, oil;
        String did = "";

        Folk(int at, int oil) {
            this.at = at;
            this.oil = oil;
        }

        Folk copy() {
            Folk other = new Folk(at, oil);
            other.did = did;
            return other;
        }

        int steps() {
            return did.replace("T", "").length();
        }

        int since() {
            int spoke = did.lastIndexOf('T');
            return spoke < 0 ? NONE : did.length() - spoke - 1;
        }

        boolean mayLook() {
            return oil > 0 && !did.endsWith("T") && !did.matches(".*TS");
        }
    }

    static final Pattern MINE = Pattern.compile("[.dsbw][0-5][0-5](,[.dsbw][0-5][0-5]){1,5};[1-9]");
    String page = "";
    String[] mine = {};
    int oil, reads;
    List<Folk> folk = new ArrayList<>();
    List<int[]> heard = new ArrayList<>();
    List<Folk> keptFolk;
    List<int[]> keptHeard;

    boolean knows(int c) {
        return c >= 0 && c < mine.length;
    }

    boolean knowsFolk(int p) {
        return p >= 0 && p < folk.size();
    }

    int kind(int c) {
        return ".dsbw".indexOf(mine[c].charAt(0));
    }

    int lead(int c, int way) {
        boolean turned = mine[c].startsWith("s");
        return mine[c].charAt(turned ? 2 - way : 1 + way) - '0';
    }

    int sound(int c) {
        return mine[c].startsWith("d") ? 1 : mine[c].startsWith("w") ? 2 : 0;
    }

    int burn(int c) {
        return mine[c].startsWith("b") ? 3 : 1;
    }

    int letter(int code) {
        if (code < 1 || code > 126) return OUTSIDE;
        if (page.length() == 28) return FULL;
        page += (char) code;
        return page.length();
    }

    int blank() {
        int had = page.length();
        page = "";
        return had;
    }

    int fault() {
        for (int i = 0; i < page.length(); i++) {
            Matcher m = MINE.matcher(page.substring(0, i + 1));
            if (!m.matches() && !m.hitEnd()) return i;
        }
        if (!MINE.matcher(page).matches()) return page.length();
        String crossings = page.substring(0, page.indexOf(';'));
        int n = crossings.split(",").length;
        for (int i = 0; i < crossings.length(); i++) {
            char sign = crossings.charAt(i);
            if (Character.isDigit(sign) && sign - '0' >= n) return i;
        }
        return page.length();
    }

    int mine() {
        if (!MINE.matcher(page).matches() || fault() != page.length()) return STATE;
        String[] parts = page.split(";");
        mine = parts[0].split(",");
        oil = Integer.parseInt(parts[1]);
        folk.clear();
        heard.clear();
        keptFolk = null;
        keptHeard = null;
        page = "";
        reads++;
        return mine.length;
    }

    int crossing(int c, int what) {
        if (!knows(c)) return UNKNOWN;
        int there = 0;
        for (int p = 0; p < folk.size(); p++) {
            if (folk.get(p).at == c) there += 1 << p;
        }
        return pick(what, kind(c), lead(c, 0), lead(c, 1), sound(c), burn(c), there);
    }

    static int pick(int what, int... told) {
        return what < 0 || what >= told.length ? OUTSIDE : told[what];
    }

    int as(int c, int kind) {
        if (!knows(c)) return UNKNOWN;
        if (kind < 0 || kind > 4) return OUTSIDE;
        String such = new String[] {".dsbw", "dw", "s", "b", "w"}[kind];
        return such.indexOf(mine[c].charAt(0)) < 0 ? NONE : c;
    }

    int party(int c) {
        if (!knows(c)) return UNKNOWN;
        if (folk.size() == 3) return FULL;
        folk.add(new Folk(c, oil));
        return folk.size() - 1;
    }

    int about(int p, int what) {
        if (!knowsFolk(p)) return UNKNOWN;
        Folk f = folk.get(p);
        return pick(what, f.at, f.oil, f.steps(), f.since(), f.mayLook() ? 1 : 0);
    }

    int step(int p, int way) {
        if (!knowsFolk(p)) return UNKNOWN;
        if (way < 0 || way > 1) return OUTSIDE;
        Folk f = folk.get(p);
        int there = lead(f.at, way);
        if (f.oil < burn(there)) return STATE;
        f.oil -= burn(there);
        f.at = there;
        f.did += "S";
        return there;
    }

    int speak(int p) {
        if (!knowsFolk(p)) return UNKNOWN;
        folk.get(p).did += "T";
        return sound(folk.get(p).at);
    }

    int look(int p) {
        if (!knowsFolk(p)) return UNKNOWN;
        return folk.get(p).mayLook() ? kind(folk.get(p).at) : STATE;
    }

    int fill(int p) {
        if (!knowsFolk(p)) return UNKNOWN;
        int had = folk.get(p).oil;
        folk.get(p).oil = oil;
        return had;
    }

    int way(int from, int to, int what) {
        if (!knows(from) || !knows(to)) return UNKNOWN;
        String word = shortest(from, 2, this::lead, c -> c == to);
        // OIL burns one by one: a state is a crossing and what is still to burn to be there.
        String burnt = shortest(List.of(from, 0), 2,
                (s, move) -> s.get(1) > 0 ? List.of(s.get(0), s.get(1) - 1)
                        : List.of(lead(s.get(0), move), burn(lead(s.get(0), move)) - 1),
                s -> s.get(0) == to && s.get(1) == 0);
        return pick(what, lengthOf(word), firstOf(word), lengthOf(burnt));
    }

    int round(int from, int what) {
        if (!knows(from)) return UNKNOWN;
        int all = (1 << mine.length) - 1;
        String word = shortest(List.of(from, 1 << from), 2,
                (s, move) -> List.of(lead(s.get(0), move), s.get(1) | 1 << lead(s.get(0), move)),
                s -> s.get(1) == all);
        return pick(what, lengthOf(word), firstOf(word));
    }

    int meet(int a, int b) {
        if (!knowsFolk(a) || !knowsFolk(b)) return UNKNOWN;
        return lengthOf(shortest(List.of(folk.get(a).at, folk.get(b).at), 4,
                (s, move) -> List.of(lead(s.get(0), move / 2), lead(s.get(1), move % 2)),
                s -> s.get(0).equals(s.get(1))));
    }

    int apart(int a, int b, int what) {
        if (!knows(a) || !knows(b)) return UNKNOWN;
        String word = shortest(List.of(a, b), 2,
                (s, move) -> List.of(lead(s.get(0), move), lead(s.get(1), move)),
                s -> sound(s.get(0)) != sound(s.get(1)));
        return pick(what, lengthOf(word), firstOf(word));
    }

    int hear(int way, int sound) {
        if (heard.isEmpty() ? way != NONE : way != 0 && way != 1) return OUTSIDE;
        if (sound < 0 || sound > 2) return OUTSIDE;
        if (heard.size() == 8) return FULL;
        heard.add(new int[] {way, sound});
        return heard.size();
    }

    int forget() {
        int had = heard.size();
        heard.clear();
        return had;
    }

    /** Each start is followed on its own by what was told. */
    Set<Integer> ends() {
        Set<Integer> ends = new TreeSet<>();
        starts:
        for (int start = 0; start < mine.length; start++) {
            int at = start;
            for (int[] told : heard) {
                at = told[0] == NONE ? at : lead(at, told[0]);
                if (sound(at) != told[1]) continue starts;
            }
            ends.add(at);
        }
        return ends;
    }

    int where() {
        if (mine.length == 0) return STATE;
        int bits = 0;
        for (int c : ends()) bits += 1 << c;
        return bits;
    }

    int worst(int way) {
        int worst = 0;
        for (int sound = 0; sound <= 2; sound++) {
            Set<Integer> left = new TreeSet<>();
            for (int c : ends()) {
                if (sound(lead(c, way)) == sound) left.add(lead(c, way));
            }
            worst = Math.max(worst, left.size());
        }
        return worst;
    }

    int next() {
        if (mine.length == 0) return STATE;
        if (ends().isEmpty()) return NONE;
        return worst(0) <= worst(1) ? 0 : 1;
    }

    int walks(int from, int steps, int seed, int what) {
        if (!knows(from)) return UNKNOWN;
        if (steps < 1 || steps > 60 || seed < 0) return OUTSIDE;
        Set<Integer> visited = new TreeSet<>();
        visited.add(from);
        int at = from;
        int sounds = 0;
        int s = seed;
        for (int i = 0; i < steps; i++) {
            // Java's own wrapping and mask, for the rest by 2 to the 31.
            s = s * 1103515245 + 12345 & Integer.MAX_VALUE;
            at = lead(at, s >> 16 & 1);
            visited.add(at);
            sounds += sound(at);
        }
        return pick(what, visited.size(), at, sounds, s);
    }

    static List<Folk> copyOf(List<Folk> all) {
        List<Folk> copies = new ArrayList<>();
        for (Folk f : all) copies.add(f.copy());
        return copies;
    }

    int image() {
        if (mine.length == 0) return STATE;
        keptFolk = copyOf(folk);
        keptHeard = new ArrayList<>(heard);
        return folk.size();
    }

    int restore() {
        if (keptFolk == null) return STATE;
        folk = copyOf(keptFolk);
        heard = new ArrayList<>(keptHeard);
        return folk.size();
    }

    int count(int what) {
        int oils = 0, steps = 0, lookers = 0;
        for (Folk f : folk) {
            oils += f.oil;
            steps += f.steps();
            lookers += f.mayLook() ? 1 : 0;
        }
        return pick(what, mine.length, oil, folk.size(), oils, steps, lookers, heard.size(), page.length(), reads);
    }

    long digest() {
        List<Integer> numbers = new ArrayList<>();
        for (int c = 0; c < mine.length; c++) {
            for (int what = 0; what < 6; what++) numbers.add(crossing(c, what));
            numbers.add(round(c, 0));
            numbers.add(round(c, 1));
            for (int d = 0; d < mine.length; d++) {
                for (int what = 0; what < 3; what++) numbers.add(way(c, d, what));
                for (int what = 0; what < 2; what++) numbers.add(apart(c, d, what));
            }
        }
        for (int p = 0; p < folk.size(); p++) {
            for (int what = 0; what < 5; what++) numbers.add(about(p, what));
            for (int q = 0; q < folk.size(); q++) numbers.add(meet(p, q));
        }
        if (mine.length > 0) {
            numbers.add(where());
            numbers.add(next());
        }
        for (char sign : page.toCharArray()) numbers.add((int) sign);
        for (int what = 0; what < 9; what++) numbers.add(count(what));
        long h = 977;
        for (int number : numbers) h = h * 31 + number;
        return h;
    }
}
