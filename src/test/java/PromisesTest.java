/** Each promise of the document by hand: ordinary inputs, the edges it names, wrong inputs. */
public final class PromisesTest {
    private static final int NONE = -1, UNKNOWN = -101, OUTSIDE = -102, STATE = -103, FULL = -104;
    private static final int LOW = Integer.MIN_VALUE, HIGH = Integer.MAX_VALUE;

    private static int wrong = 0;

    private static void due(String call, long got, long want) {
        if (got != want) {
            wrong++;
            System.out.println(call + " answered " + got + ", due is " + want);
        }
    }

    private static LanternTongue written(String text) {
        LanternTongue x = new LanternTongue();
        write(x, text);
        return x;
    }

    private static void write(LanternTongue x, String text) {
        for (int i = 0; i < text.length(); i++) {
            x.letter(text.charAt(i));
        }
    }

    private static LanternTongue mined(String text) {
        LanternTongue x = written(text);
        due("mine() of " + text, x.mine(), text.length() / 4);
        return x;
    }

    private static void newObject() {
        LanternTongue x = new LanternTongue();
        for (int what = 0; what <= 8; what++) {
            due("1 count(" + what + ")", x.count(what), 0);
        }
        due("1 crossing", x.crossing(0, 0), UNKNOWN);
        due("1 as", x.as(0, 0), UNKNOWN);
        due("1 party", x.party(0), UNKNOWN);
        due("1 about", x.about(0, 0), UNKNOWN);
        due("1 way", x.way(0, 0, 0), UNKNOWN);
        due("1 round", x.round(0, 0), UNKNOWN);
        due("1 meet", x.meet(0, 0), UNKNOWN);
        due("1 apart", x.apart(0, 0, 0), UNKNOWN);
        due("1 walks", x.walks(0, 1, 0, 0), UNKNOWN);
        due("1 where", x.where(), STATE);
        due("1 next", x.next(), STATE);
        due("1 image", x.image(), STATE);
        due("1 restore", x.restore(), STATE);
        due("1 mine", x.mine(), STATE);
        due("1 fault", x.fault(), 0);
    }

    private static void letters() {
        LanternTongue x = new LanternTongue();
        due("2 letter(0)", x.letter(0), OUTSIDE);
        due("2 letter(127)", x.letter(127), OUTSIDE);
        due("2 letter(low)", x.letter(LOW), OUTSIDE);
        due("2 letter(high)", x.letter(HIGH), OUTSIDE);
        due("2 letter(1)", x.letter(1), 1);
        due("2 letter(126)", x.letter(126), 2);
        for (int n = 3; n <= 28; n++) {
            due("2 letter " + n, x.letter('a'), n);
        }
        due("2 letter 29", x.letter('a'), FULL);
        due("2 a wrong letter 29", x.letter(0), OUTSIDE);
        due("2 count", x.count(7), 28);
        due("3 blank", x.blank(), 28);
        due("3 blank again", x.blank(), 0);
        due("3 count", x.count(7), 0);
        due("2 letter behind blank", x.letter('.'), 1);
        due("3 fault of what came since", x.fault(), 1);
    }

    private static void faultIs(String text, int place) {
        LanternTongue x = written(text);
        due("4 fault of " + text, x.fault(), place);
        due("4 fault changes nothing", x.count(7), text.length());
    }

    private static void faults() {
        faultIs("", 0);
        faultIs(".", 1);
        faultIs("x", 0);
        faultIs("0", 0);
        faultIs("D01", 0);
        faultIs(".55", 3);
        faultIs(".6", 1);
        faultIs(".06", 2);
        faultIs(".0/", 2);
        faultIs(".a", 1);
        faultIs(".01;", 3);
        faultIs(".01.", 3);
        faultIs(".01,", 4);
        faultIs(".01,,", 4);
        faultIs(".01,.10", 7);
        faultIs(".01,.10;", 8);
        faultIs(".01,.10;0", 8);
        faultIs(".01,.10;9", 9);
        faultIs(".01,.10;:", 8);
        faultIs(".01,.10;;", 8);
        faultIs(".01,.10;1;", 9);
        faultIs(".01,.10;11", 9);
        faultIs(".55,.55;9", 1);
        faultIs(".02,.55;9", 2);
        faultIs(".01,.12;9", 6);
        faultIs(".01,.12;", 8);
        faultIs(".01,.12;99", 9);
        faultIs(".01,d12,s23,b34,w45,.50;9", 25);
        faultIs(".01,d12,s23,b34,w45,.50,", 23);
        faultIs(".01,d12,s23,b34,w45;9", 18);
        faultIs(".01,d12,s23,b34,w45,.50;9.", 25);
    }

    private static void mines() {
        LanternTongue x = written(".01,.12;9");
        due("5 a mine that leads nowhere", x.mine(), STATE);
        due("5 the page stands", x.count(7), 9);
        due("5 none was read", x.count(8), 0);
        x.blank();
        write(x, ".01,.10;");
        due("5 a mine without oil", x.mine(), STATE);
        x.letter('7');
        due("5 the same with oil", x.mine(), 2);
        due("5 the page is empty", x.count(7), 0);
        due("5 crossings", x.count(0), 2);
        due("5 oil", x.count(1), 7);
        due("5 read", x.count(8), 1);
        due("5 of nothing", x.mine(), STATE);
        x.party(0);
        x.step(0, 0);
        x.hear(NONE, 0);
        x.image();
        write(x, ".01,.12,.20;3x");
        due("5 of too much", x.mine(), STATE);
        due("5 parties stand", x.count(2), 1);
        due("5 heard stands", x.count(6), 1);
        due("5 the image stands", x.restore(), 1);
        x.blank();
        write(x, ".01,.12,.20;3");
        due("5 another", x.mine(), 3);
        due("5 parties are gone", x.count(2), 0);
        due("5 none is at a crossing", x.crossing(0, 5), 0);
        due("5 none has oil", x.count(3), 0);
        due("5 none may look", x.count(5), 0);
        due("5 heard is gone", x.count(6), 0);
        x.party(0);
        due("8 one of a number that was is new", x.about(0, 2), 0);
        due("5 the image is gone", x.restore(), STATE);
        due("5 its oil", x.count(1), 3);
        due("5 read twice", x.count(8), 2);
        write(x, ".01,.10;7");
        due("5 a smaller one", x.mine(), 2);
        due("5 the third crossing is gone", x.crossing(2, 0), UNKNOWN);
        due("5 where", x.where(), 3);
        write(x, ".01,.12,.23,.34,.45,.50;3");
        due("5 the greatest", x.mine(), 6);
    }

    private static void crossings() {
        LanternTongue x = mined(".12,d23,s34,b40,w01;9");
        int[][] told = {{0, 1, 2, 0, 1}, {1, 2, 3, 1, 1}, {2, 4, 3, 0, 1}, {3, 4, 0, 0, 3}, {4, 0, 1, 2, 1}};
        for (int c = 0; c < 5; c++) {
            for (int what = 0; what <= 4; what++) {
                due("6 crossing(" + c + ", " + what + ")", x.crossing(c, what), told[c][what]);
            }
        }
        due("6 nobody is there", x.crossing(2, 5), 0);
        x.party(2);
        x.party(0);
        x.party(2);
        due("6 two are there", x.crossing(2, 5), 5);
        due("6 one is there", x.crossing(0, 5), 2);
        due("6 crossing(-1, 0)", x.crossing(-1, 0), UNKNOWN);
        due("6 crossing(5, 9)", x.crossing(5, 9), UNKNOWN);
        due("6 crossing(high, 0)", x.crossing(HIGH, 0), UNKNOWN);
        due("6 crossing(0, -1)", x.crossing(0, -1), OUTSIDE);
        due("6 crossing(0, 6)", x.crossing(0, 6), OUTSIDE);
        for (int c = 0; c < 5; c++) {
            for (int kind = 0; kind < 5; kind++) {
                boolean such = kind == 0 || kind == c || kind == 1 && c == 4;
                due("7 as(" + c + ", " + kind + ")", x.as(c, kind), such ? c : NONE);
            }
        }
        due("7 as(5, 0)", x.as(5, 0), UNKNOWN);
        due("7 as(-1, 7)", x.as(-1, 7), UNKNOWN);
        due("7 as(0, 5)", x.as(0, 5), OUTSIDE);
        due("7 as(0, -1)", x.as(0, -1), OUTSIDE);
    }

    private static void parties() {
        LanternTongue x = mined(".12,d23,s34,b40,w01;5");
        due("8 party(5)", x.party(5), UNKNOWN);
        due("8 party(-1)", x.party(-1), UNKNOWN);
        due("8 party(4)", x.party(4), 0);
        int[] fresh = {4, 5, 0, NONE, 1};
        for (int what = 0; what <= 4; what++) {
            due("9 about(0, " + what + ")", x.about(0, what), fresh[what]);
        }
        due("8 party(1)", x.party(1), 1);
        due("8 party(1) again", x.party(1), 2);
        due("8 a fourth", x.party(1), FULL);
        due("8 a fourth nowhere", x.party(5), UNKNOWN);
        due("9 about(3, 9)", x.about(3, 9), UNKNOWN);
        due("9 about(-1, 0)", x.about(-1, 0), UNKNOWN);
        due("9 about(0, 5)", x.about(0, 5), OUTSIDE);
        due("9 about(0, -1)", x.about(0, -1), OUTSIDE);
    }

    private static void steps() {
        LanternTongue x = mined(".12,d23,s34,b40,w01;5");
        x.party(2);
        due("10 step(1, 9)", x.step(1, 9), UNKNOWN);
        due("10 step(-1, 0)", x.step(-1, 0), UNKNOWN);
        due("10 step(0, 2)", x.step(0, 2), OUTSIDE);
        due("10 step(0, -1)", x.step(0, -1), OUTSIDE);
        due("10 right from a squeeze", x.step(0, 1), 3);
        due("10 bats burn 3", x.about(0, 1), 2);
        due("10 left from bats", x.step(0, 0), 4);
        due("10 others burn 1", x.about(0, 1), 1);
        due("10 left to 0", x.step(0, 0), 0);
        due("10 none is left", x.about(0, 1), 0);
        due("10 without oil", x.step(0, 0), STATE);
        due("10 it stays", x.about(0, 0), 0);
        due("10 steps", x.about(0, 2), 3);
        due("9 without oil none may look", x.about(0, 4), 0);
        due("12 without oil none may look", x.look(0), STATE);
        due("13 fill", x.fill(0), 0);
        due("13 fill again", x.fill(0), 5);
        due("13 fill(1)", x.fill(1), UNKNOWN);
        due("13 fill(low)", x.fill(LOW), UNKNOWN);
        due("13 steps stand", x.about(0, 2), 3);

        LanternTongue y = mined("b01,.00;2");
        y.party(1);
        due("10 too little for bats", y.step(0, 0), STATE);
        due("10 nothing burnt", y.about(0, 1), 2);
        LanternTongue z = mined("b01,.00;3");
        z.party(1);
        due("10 just enough for bats", z.step(0, 0), 0);
        due("10 all burnt", z.about(0, 1), 0);
    }

    private static void speech() {
        LanternTongue x = mined("d11,w00;9");
        x.party(0);
        due("11 speak(1)", x.speak(1), UNKNOWN);
        due("11 speak(-1)", x.speak(-1), UNKNOWN);
        due("12 look", x.look(0), 1);
        due("12 look again", x.look(0), 1);
        due("11 a drip", x.speak(0), 1);
        due("9 since", x.about(0, 3), 0);
        due("12 look at once", x.look(0), STATE);
        x.step(0, 0);
        due("9 since one", x.about(0, 3), 1);
        due("9 may look", x.about(0, 4), 0);
        due("12 look by one", x.look(0), STATE);
        due("11 a well", x.speak(0), 2);
        due("9 since the latest", x.about(0, 3), 0);
        x.step(0, 0);
        due("12 look by one since the latest", x.look(0), STATE);
        x.step(0, 0);
        due("9 since two", x.about(0, 3), 2);
        due("9 may look by two", x.about(0, 4), 1);
        due("12 look by two", x.look(0), 4);
        due("12 look(1)", x.look(1), UNKNOWN);
        due("12 look(high)", x.look(HIGH), UNKNOWN);
        LanternTongue y = mined("s11,b00;9");
        y.party(0);
        y.party(1);
        due("11 a squeeze", y.speak(0), 0);
        due("11 bats", y.speak(1), 0);
        due("12 spoken, and filled", y.fill(0) + y.look(0), 9 + STATE);
    }

    private static void waysOfAll() {
        // From 0 the bats at 1 are the short way to 3, the long one is by 2 and 4.
        LanternTongue x = mined(".12,b33,.44,.33,.55,.33;9");
        due("14 steps", x.way(0, 3, 0), 2);
        due("14 first", x.way(0, 3, 1), 0);
        due("14 oil", x.way(0, 3, 2), 4);
        due("14 first right", x.way(0, 4, 1), 1);
        due("14 itself", x.way(2, 2, 0), 0);
        due("14 first to itself", x.way(2, 2, 1), NONE);
        due("14 oil to itself", x.way(2, 2, 2), 0);
        for (int what = 0; what <= 2; what++) {
            due("14 none", x.way(3, 0, what), NONE);
        }
        due("14 like ones", x.way(1, 3, 1), 0);
        due("14 way(6, 0, 9)", x.way(6, 0, 9), UNKNOWN);
        due("14 way(0, 6, 9)", x.way(0, 6, 9), UNKNOWN);
        due("14 way(0, -1, 0)", x.way(0, -1, 0), UNKNOWN);
        due("14 way(0, 0, 3)", x.way(0, 0, 3), OUTSIDE);
        due("14 way(0, 0, -1)", x.way(0, 0, -1), OUTSIDE);
        LanternTongue y = mined(".12,b33,.44,.33,.33;9");
        due("14 the longer way burns less", y.way(0, 3, 2), 3);
        due("14 the shorter way is by bats", y.way(0, 3, 0), 2);
        due("14 from a squeeze", mined("s01,.00;1").way(0, 1, 1), 0);
    }

    private static void rounds() {
        LanternTongue x = mined(".01,.10;1");
        due("15 round", x.round(0, 0), 1);
        due("15 first", x.round(0, 1), 1);
        LanternTongue y = mined(".12,.00,.00;1");
        due("15 there and back and there", y.round(0, 0), 3);
        due("15 like ones", y.round(0, 1), 0);
        due("15 from a side", y.round(1, 0), 2);
        LanternTongue z = mined(".12,.11,.22;1");
        due("15 none", z.round(0, 0), NONE);
        due("15 none first", z.round(0, 1), NONE);
        LanternTongue w = mined(".21,.20,.22;1");
        due("15 right first", w.round(0, 0), 2);
        due("15 right first", w.round(0, 1), 1);
        due("15 none from the end", w.round(2, 0), NONE);
        due("15 round(3, 9)", w.round(3, 9), UNKNOWN);
        due("15 round(-1, 0)", w.round(-1, 0), UNKNOWN);
        due("15 round(0, 2)", w.round(0, 2), OUTSIDE);
        due("15 round(0, -1)", w.round(0, -1), OUTSIDE);
    }

    private static void meetings() {
        LanternTongue x = mined(".11,.00;1");
        x.party(0);
        x.party(1);
        x.party(1);
        due("16 never", x.meet(0, 1), NONE);
        due("16 they are", x.meet(1, 2), 0);
        due("16 itself", x.meet(0, 0), 0);
        due("16 meet(3, 0)", x.meet(3, 0), UNKNOWN);
        due("16 meet(0, 3)", x.meet(0, 3), UNKNOWN);
        due("16 meet(-1, 0)", x.meet(-1, 0), UNKNOWN);
        x.step(0, 0);
        due("16 they are now", x.meet(0, 1), 0);
        LanternTongue y = mined(".11,.22,.33,.03;1");
        y.party(0);
        y.party(2);
        due("16 both must step", y.meet(0, 1), 3);
        due("16 either way about", y.meet(1, 0), 3);
    }

    private static void telling() {
        LanternTongue x = mined(".01,.12,d22;1");
        due("17 unlike", x.apart(0, 2, 0), 0);
        due("17 none is needed", x.apart(0, 2, 1), NONE);
        due("17 by one", x.apart(0, 1, 0), 1);
        due("17 right", x.apart(0, 1, 1), 1);
        due("17 itself", x.apart(1, 1, 0), NONE);
        due("17 itself first", x.apart(1, 1, 1), NONE);
        due("17 apart(3, 0, 9)", x.apart(3, 0, 9), UNKNOWN);
        due("17 apart(0, 3, 9)", x.apart(0, 3, 9), UNKNOWN);
        due("17 apart(0, -1, 0)", x.apart(0, -1, 0), UNKNOWN);
        due("17 apart(0, 0, 2)", x.apart(0, 0, 2), OUTSIDE);
        due("17 apart(0, 0, -1)", x.apart(0, 0, -1), OUTSIDE);
        LanternTongue y = mined(".11,.22,.33,w33;1");
        due("17 by two", y.apart(0, 1, 0), 2);
        due("17 like ones", y.apart(0, 1, 1), 0);
        LanternTongue z = mined(".11,s00;1");
        due("17 kinds of like sounds", z.apart(0, 1, 0), NONE);
        due("17 a well is no drip by sound", mined("d00,w00;1").apart(0, 1, 0), 0);
    }

    private static void lost() {
        LanternTongue x = mined(".12,d20,.01;1");
        due("20 anywhere", x.where(), 7);
        due("18 a way at first", x.hear(0, 0), OUTSIDE);
        due("18 a sound of 3", x.hear(NONE, 3), OUTSIDE);
        due("18 a sound of -1", x.hear(NONE, -1), OUTSIDE);
        due("18 at first", x.hear(NONE, 0), 1);
        due("20 by silence", x.where(), 5);
        due("21 left tells", x.next(), 0);
        due("18 no way then", x.hear(NONE, 0), OUTSIDE);
        due("18 a way of 2", x.hear(2, 0), OUTSIDE);
        due("18 left", x.hear(0, 1), 2);
        due("20 by a drip", x.where(), 2);
        due("18 right", x.hear(1, 2), 3);
        due("20 nowhere", x.where(), 0);
        due("21 from nowhere", x.next(), NONE);
        for (int n = 4; n <= 8; n++) {
            due("18 more", x.hear(1, 0), n);
        }
        due("18 a ninth", x.hear(1, 0), FULL);
        due("18 a wrong ninth", x.hear(NONE, 0), OUTSIDE);
        due("18 a ninth of a wrong sound", x.hear(0, 3), OUTSIDE);
        due("19 forget", x.forget(), 8);
        due("19 forget again", x.forget(), 0);
        due("20 anywhere again", x.where(), 7);
        due("18 a way at first again", x.hear(1, 0), OUTSIDE);
        due("21 of like ones left", mined(".01,.10;1").next(), 0);
        due("21 right leaves fewer", mined(".01,.11;1").next(), 1);
        due("21 places are counted, not those who come", mined(".00,.01,d02,d03;1").next(), 0);
        LanternTongue w = mined(".12,d12,.12;1");
        w.hear(NONE, 0);
        due("20 the first is no step", w.where(), 5);
        LanternTongue z = mined(".10,d12,.20;1");
        z.hear(NONE, 0);
        z.hear(1, 0);
        due("20 by right", z.where(), 1);
        z.hear(0, 1);
        due("20 by left", z.where(), 2);
        LanternTongue y = new LanternTongue();
        due("18 without a mine", y.hear(NONE, 2), 1);
        due("20 without a mine", y.where(), STATE);
        due("21 without a mine", y.next(), STATE);
        due("19 without a mine", y.forget(), 1);
    }

    private static void walking() {
        LanternTongue x = mined("d01,w10;1");
        due("22 the seed", x.walks(0, 1, 0, 3), 12345);
        due("22 the seed of the highest", x.walks(0, 1, HIGH, 3), (12345L - 1103515245L + (1L << 31)) % (1L << 31));
        // Of the seeds 12345 and 1406932606 the draws are 0 and 0; of 654583775 it is 0; of 1449466924 it is 1.
        due("22 three to the left", x.walks(0, 3, 0, 0), 1);
        due("22 then to the right", x.walks(0, 4, 0, 0), 2);
        due("22 the end", x.walks(0, 4, 0, 1), 1);
        due("22 the sounds", x.walks(0, 4, 0, 2), 5);
        due("22 the seed then", x.walks(0, 4, 0, 3), 1449466924);
        due("22 walks(2, 0, -1, 9)", x.walks(2, 0, -1, 9), UNKNOWN);
        due("22 walks(-1, 1, 0, 0)", x.walks(-1, 1, 0, 0), UNKNOWN);
        due("22 no steps", x.walks(0, 0, 0, 0), OUTSIDE);
        due("22 61 steps", x.walks(0, 61, 0, 0), OUTSIDE);
        due("22 60 steps", x.walks(0, 60, 0, 0), 2);
        due("22 a seed of -1", x.walks(0, 1, -1, 0), OUTSIDE);
        due("22 what of 4", x.walks(0, 1, 0, 4), OUTSIDE);
        due("22 what of -1", x.walks(0, 1, 0, -1), OUTSIDE);
    }

    private static void images() {
        LanternTongue x = mined(".11,d00;9");
        due("24 none was kept", x.restore(), STATE);
        due("23 of nobody", x.image(), 0);
        x.party(0);
        x.party(1);
        x.step(0, 0);
        x.step(0, 0);
        x.speak(1);
        x.step(1, 0);
        x.hear(NONE, 0);
        due("24 those that came since are gone", x.restore(), 0);
        due("24 from their crossing, too", x.crossing(0, 5), 0);
        due("24 and their oil", x.count(3), 0);
        due("24 and that they may look", x.count(5), 0);
        due("24 so is what was heard", x.count(6), 0);
        x.party(0);
        x.speak(0);
        x.step(0, 0);
        x.hear(NONE, 0);
        x.hear(1, 1);
        due("23 of one", x.image(), 1);
        x.step(0, 0);
        x.step(0, 0);
        x.speak(0);
        x.fill(0);
        x.step(0, 0);
        x.step(0, 0);
        x.step(0, 0);
        x.party(1);
        x.forget();
        x.hear(NONE, 2);
        x.hear(0, 2);
        x.letter('b');
        due("24 restore", x.restore(), 1);
        int[] told = {1, 8, 1, 1, 0};
        for (int what = 0; what <= 4; what++) {
            due("24 about(0, " + what + ")", x.about(0, what), told[what]);
        }
        due("24 heard", x.count(6), 2);
        due("24 what was heard", x.where(), 2);
        due("24 the page stands", x.count(7), 1);
        x.step(0, 0);
        due("24 restore again", x.restore(), 1);
        due("24 the image did not go on", x.about(0, 2), 1);
        x.blank();
        write(x, ".11,d00;9");
        x.mine();
        due("24 another mine since", x.restore(), STATE);
        due("23 image of it", x.image(), 0);
        due("24 restore of it", x.restore(), 0);
    }

    private static void imageOfWays() {
        LanternTongue x = mined(".01,d20,w22;1");
        x.hear(NONE, 0);
        x.hear(1, 1);
        x.image();
        x.forget();
        x.hear(NONE, 0);
        x.hear(0, 0);
        x.restore();
        due("24 which steps they made", x.where(), 2);
        x.party(0);
        x.party(2);
        x.image();
        x.step(0, 1);
        x.restore();
        due("24 where they are", x.about(0, 0), 0);
        due("9 the last oil is enough to look", x.about(1, 4), 1);
    }

    private static void counts() {
        LanternTongue x = mined(".11,d00;9");
        x.party(0);
        x.party(1);
        x.step(0, 0);
        x.step(0, 0);
        x.step(1, 0);
        x.speak(1);
        x.hear(NONE, 0);
        x.letter('.');
        x.letter('.');
        x.letter('.');
        int[] told = {2, 9, 2, 15, 3, 1, 1, 3, 1};
        for (int what = 0; what <= 8; what++) {
            due("25 count(" + what + ")", x.count(what), told[what]);
        }
        due("25 count(9)", x.count(9), OUTSIDE);
        due("25 count(-1)", x.count(-1), OUTSIDE);
        due("25 count(low)", x.count(LOW), OUTSIDE);
    }

    private static long hashOf(int... numbers) {
        long h = 977;
        for (int number : numbers) {
            h = 31 * h + number;
        }
        return h;
    }

    private static void digests() {
        due("26 of a new one", new LanternTongue().digest(), hashOf(0, 0, 0, 0, 0, 0, 0, 0, 0));
        LanternTongue x = written("w0");
        x.hear(NONE, 2);
        due("26 without a mine", x.digest(), hashOf('w', '0', 0, 0, 0, 0, 0, 0, 1, 2, 0));
        LanternTongue y = mined("d01,b00;9");
        y.party(1);
        y.party(0);
        y.speak(0);
        y.letter('s');
        due("26 with all", y.digest(), hashOf(
                1, 0, 1, 1, 1, 2, 1, 1, 0, -1, 0, -1, -1, 1, 1, 3, 0, -1,
                3, 0, 0, 0, 3, 1, 1, 0, 1, 0, 1, 0, -1, 0, -1, 0, -1, -1,
                1, 9, 0, 0, 0, 0, 1, 0, 9, 0, -1, 1, 1, 0,
                3, 0, 's', 2, 9, 2, 18, 0, 1, 0, 1, 1));
        due("26 it changes nothing", y.digest(), y.digest());
    }

    public static void main(String[] args) {
        newObject();
        letters();
        faults();
        mines();
        crossings();
        parties();
        steps();
        speech();
        waysOfAll();
        rounds();
        meetings();
        telling();
        lost();
        walking();
        images();
        imageOfWays();
        counts();
        digests();
        System.out.println(wrong == 0 ? "all promises hold" : wrong + " answers are not as due");
        if (wrong != 0) {
            System.exit(1);
        }
    }
}
