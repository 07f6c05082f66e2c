/**
 * Every mine of two and of three crossings that there is, held against the model: what is told of crossings,
 * ways, rounds, meetings and tellings apart (by the digest, with a party at each crossing), and where lost ones
 * can be and should go for each first sound and each step and sound behind it.
 */
public final class SmallMinesTest {
    private static final String SIGNS = ".dsbw";
    private static final int MOST_TOLD = 20;
    private static int wrong = 0;

    private static void same(String what, long got, long want) {
        if (got != want) {
            wrong++;
            if (wrong <= MOST_TOLD) System.out.println(what + " answered " + got + ", the model " + want);
        }
    }

    /** The mine of a number: kinds and leads are its digits, in rests by 5 and by how many crossings there are. */
    private static String mineOf(int crossings, int number) {
        StringBuilder text = new StringBuilder();
        int rest = number;
        for (int c = 0; c < crossings; c++) {
            text.append(c == 0 ? "" : ",").append(SIGNS.charAt(rest % SIGNS.length()));
            rest /= SIGNS.length();
            text.append(rest % crossings);
            rest /= crossings;
            text.append(rest % crossings);
            rest /= crossings;
        }
        return text.append(';').append(1 + number % 9).toString();
    }

    private static void lostIn(String text, LanternTongue x, Model m) {
        same("where() in " + text, x.where(), m.where());
        same("next() in " + text, x.next(), m.next());
    }

    private static void hearIn(String text, LanternTongue x, Model m) {
        for (int first = 0; first <= 2; first++) {
            same("hear in " + text, x.hear(-1, first), m.hear(-1, first));
            lostIn(text, x, m);
            same("image() in " + text, x.image(), m.image());
            for (int then = 0; then < 6; then++) {
                same("hear in " + text, x.hear(then / 3, then % 3), m.hear(then / 3, then % 3));
                lostIn(text, x, m);
                same("restore() in " + text, x.restore(), m.restore());
            }
            same("forget() in " + text, x.forget(), m.forget());
        }
    }

    private static void holdAgainstTheModel(int crossings, String text) {
        LanternTongue x = new LanternTongue();
        Model m = new Model();
        for (char sign : text.toCharArray()) {
            same("letter of " + text, x.letter(sign), m.letter(sign));
        }
        same("fault() of " + text, x.fault(), m.fault());
        same("mine() of " + text, x.mine(), m.mine());
        for (int c = 0; c < crossings; c++) {
            same("party in " + text, x.party(c), m.party(c));
        }
        same("digest() of " + text, x.digest(), m.digest());
        lostIn(text, x, m);
        hearIn(text, x, m);
    }

    private static int allOf(int crossings) {
        int mines = 1;
        for (int c = 0; c < crossings; c++) {
            mines *= SIGNS.length() * crossings * crossings;
        }
        for (int number = 0; number < mines; number++) {
            holdAgainstTheModel(crossings, mineOf(crossings, number));
        }
        return mines;
    }

    public static void main(String[] args) {
        int mines = allOf(2) + allOf(3);
        System.out.println(mines + " small mines" + (wrong == 0 ? " are as the model tells" : ": " + wrong + " answers are not the model's"));
        if (wrong != 0) System.exit(1);
    }
}
