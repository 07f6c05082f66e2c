/** The edges of promises 1 to 7: the page, the mine, its crossings. */
public final class MineEdgesTest extends Edges {
    private static final String KINDS = ".dsbw";

    // ---- 1 a new object

    @Edge(promise = 1, says = "`LanternTongue()`: No MINE.")
    static void aNewObjectHasNoCrossing() {
        refused("crossing(0, 0)", UNKNOWN, Edges::fresh, x -> x.crossing(0, 0));
        refused("as(0, 0)", UNKNOWN, Edges::fresh, x -> x.as(0, 0));
        refused("party(0)", UNKNOWN, Edges::fresh, x -> x.party(0));
        refused("way(0, 0, 0)", UNKNOWN, Edges::fresh, x -> x.way(0, 0, 0));
        refused("round(0, 0)", UNKNOWN, Edges::fresh, x -> x.round(0, 0));
        refused("apart(0, 0, 0)", UNKNOWN, Edges::fresh, x -> x.apart(0, 0, 0));
        refused("walks(0, 1, 0, 0)", UNKNOWN, Edges::fresh, x -> x.walks(0, 1, 0, 0));
    }

    @Edge(promise = 1, says = "`LanternTongue()`: No MINE.")
    static void aNewObjectHasNoParty() {
        refused("about(0, 0)", UNKNOWN, Edges::fresh, x -> x.about(0, 0));
        refused("step(0, 0)", UNKNOWN, Edges::fresh, x -> x.step(0, 0));
        refused("speak(0)", UNKNOWN, Edges::fresh, x -> x.speak(0));
        refused("look(0)", UNKNOWN, Edges::fresh, x -> x.look(0));
        refused("fill(0)", UNKNOWN, Edges::fresh, x -> x.fill(0));
        refused("meet(0, 0)", UNKNOWN, Edges::fresh, x -> x.meet(0, 0));
    }

    @Edge(promise = 1, says = "At first there is none.")
    static void aNewObjectHasNothingToGoOnFrom() {
        refused("mine()", STATE, Edges::fresh, x -> x.mine());
        refused("where()", STATE, Edges::fresh, x -> x.where());
        refused("next()", STATE, Edges::fresh, x -> x.next());
        refused("image()", STATE, Edges::fresh, x -> x.image());
        refused("restore()", STATE, Edges::fresh, x -> x.restore());
    }

    @Edge(promise = 1, says = "At first there is none.")
    static void aNewObjectCountsNothing() {
        for (int what = 0; what <= 8; what++) {
            due("count(" + what + ")", fresh().count(what), 0);
        }
        due("fault()", fresh().fault(), 0);
        due("blank()", fresh().blank(), 0);
        due("forget()", fresh().forget(), 0);
    }

    // ---- 2 letter

    private static LanternTongue pageOf(int letters) {
        LanternTongue x = new LanternTongue();
        for (int n = 1; n <= letters; n++) {
            due("letter " + n, x.letter(n), n);
        }
        return x;
    }

    @Edge(promise = 2, says = "OUTSIDE: code (1 to 126)")
    static void theLeastCodeIs1() {
        due("letter(1)", fresh().letter(1), 1);
        refusedWith("letter", OUTSIDE, Edges::fresh, LanternTongue::letter, 0, -1, LOW);
        refusedWith("letter", OUTSIDE, Edges::busy, LanternTongue::letter, 0, -1, LOW);
    }

    @Edge(promise = 2, says = "OUTSIDE: code (1 to 126)")
    static void theGreatestCodeIs126() {
        due("letter(126)", fresh().letter(126), 1);
        refusedWith("letter", OUTSIDE, Edges::fresh, LanternTongue::letter, 127, 128, 256 + '.', HIGH);
        refusedWith("letter", OUTSIDE, Edges::busy, LanternTongue::letter, 127, 128, 256 + '.', HIGH);
    }

    @Edge(promise = 2, says = "OUTSIDE: code (1 to 126)")
    static void everyCodeBetweenIsALetter() {
        for (int code = 1; code <= 126; code++) {
            LanternTongue x = fresh();
            due("letter(" + code + ")", x.letter(code), 1);
            due("how many", x.count(7), 1);
        }
    }

    @Edge(promise = 2, says = "FULL: above 28.")
    static void the28thLetterIsTheLast() {
        due("letter 28", pageOf(27).letter('.'), 28);
        refused("letter 29", FULL, () -> pageOf(28), x -> x.letter('.'));
        refused("letter 29", FULL, Edges::full, x -> x.letter(1));
    }

    @Edge(promise = 2, says = "of several the first as told by each call")
    static void aWrongCodeOnAFullPageIsOutside() {
        refusedWith("letter 29", OUTSIDE, () -> pageOf(28), LanternTongue::letter, 0, 127, LOW, HIGH);
    }

    @Edge(promise = 2, says = "A letter comes behind THE PAGE")
    static void aRefusedLetterLeavesNoGap() {
        LanternTongue x = written(".01");
        x.letter(127);
        x.letter(0);
        write(x, ",.10;1");
        due("fault()", x.fault(), 9);
        due("mine()", x.mine(), 2);
    }

    // ---- 3 blank

    @Edge(promise = 3, says = "THE PAGE is empty: how many letters it had.")
    static void anEmptyPageHadNone() {
        told("blank()", 0, Edges::fresh, x -> x.blank());
        told("blank()", 0, Edges::five, x -> x.blank());
    }

    @Edge(promise = 3, says = "THE PAGE is empty: how many letters it had.")
    static void aPageOfOneLetterHadOne() {
        LanternTongue x = pageOf(1);
        due("blank()", x.blank(), 1);
        due("blank() again", x.blank(), 0);
        same("a page made empty", x, fresh());
    }

    @Edge(promise = 3, says = "THE PAGE is empty: how many letters it had.")
    static void aFullPageHad28AndTakesLettersAgain() {
        LanternTongue x = pageOf(28);
        due("blank()", x.blank(), 28);
        due("count(7)", x.count(7), 0);
        due("letter", x.letter('.'), 1);
        due("fault() behind the first letter", x.fault(), 1);
    }

    @Edge(promise = 3, says = "THE PAGE is empty: how many letters it had.")
    static void theMineStandsBehindIt() {
        LanternTongue x = five();
        write(x, LEAST);
        due("blank()", x.blank(), 9);
        due("mine() of what was", x.mine(), STATE);
        same("the mine", x, five());
    }

    // ---- 4 fault

    private static void faultIs(String text, int place) {
        told("fault() of " + text, place, () -> written(text), x -> x.fault());
    }

    /** Behind the beginning just these signs may follow; another is a fault at its place. */
    private static void mayFollow(String beginning, String signs) {
        for (int code = 1; code <= 126; code++) {
            LanternTongue x = written(beginning);
            x.letter(code);
            int place = beginning.length() + (signs.indexOf(code) >= 0 ? 1 : 0);
            due("fault() of " + beginning + " and " + code, x.fault(), place);
        }
    }

    @Edge(promise = 4, says = "how many letters it has, if there is none.")
    static void anEmptyPageHasNoFault() {
        faultIs("", 0);
    }

    @Edge(promise = 4, says = "how many letters it has, if there is none.")
    static void noBeginningOfAMineHasAFault() {
        for (String text : new String[] {LEAST, FIVE, MOST}) {
            for (int n = 0; n <= text.length(); n++) {
                faultIs(text.substring(0, n), n);
            }
        }
    }

    @Edge(promise = 4, says = "each a sign, the KIND, and two digits")
    static void aSignComesFirst() {
        mayFollow("", KINDS);
        mayFollow(".01,", KINDS);
        mayFollow(".01,.01,.01,.01,.01,", KINDS);
    }

    @Edge(promise = 4, says = "if any digit 0 to 5 leads somewhere")
    static void digitsFrom0To5ComeThen() {
        mayFollow(".", "012345");
        mayFollow("w0", "012345");
        mayFollow(".01,.01,.01,.01,.01,s", "012345");
        mayFollow(".01,.01,.01,.01,.01,s5", "012345");
    }

    @Edge(promise = 4, says = "two to six CROSSINGS")
    static void oneCrossingIsTooFew() {
        mayFollow(".01", ",");
        faultIs(".01;", 3);
        faultIs(".00;1", 3);
    }

    @Edge(promise = 4, says = "two to six CROSSINGS")
    static void twoToFiveMayBeAllOrNot() {
        mayFollow(".01,.01", ",;");
        mayFollow(".01,.01,.01", ",;");
        mayFollow(".01,.01,.01,.01", ",;");
        mayFollow(".01,.01,.01,.01,.01", ",;");
    }

    @Edge(promise = 4, says = "two to six CROSSINGS")
    static void sevenAreTooMany() {
        mayFollow(".01,.01,.01,.01,.01,.01", ";");
        faultIs(".01,.01,.01,.01,.01,.01,.01", 23);
    }

    @Edge(promise = 4, says = "then \";\" and a digit OIL (1 to 9).")
    static void oilIsFrom1To9() {
        mayFollow(".01,.01;", "123456789");
        mayFollow(".01,.01,.01,.01,.01,.01;", "123456789");
    }

    @Edge(promise = 4, says = "that no MINE has there, behind those ahead of it")
    static void nothingComesBehindTheOil() {
        mayFollow(LEAST, "");
        mayFollow(MOST, "");
        faultIs(MOST + "123", 25);
    }

    @Edge(promise = 4, says = "The place (from 0) of the first letter")
    static void theFirstOfSeveralIsTold() {
        faultIs("x01,x10;0", 0);
        faultIs(".x1,x10;0", 1);
        faultIs(".01,x10;0", 4);
        faultIs(".01,.10;0x", 8);
    }

    @Edge(promise = 4, says = "that of the first digit that names no CROSSING of it")
    static void theLastCrossingIsNamedByOneLessThanThereAre() {
        for (int n = 2; n <= 5; n++) {
            StringBuilder text = new StringBuilder();
            for (int c = 0; c < n; c++) {
                text.append(c == 0 ? "" : ",").append('.').append(n - 1).append(n - 1);
            }
            text.append(";1");
            faultIs(text.toString(), text.length());
            for (int place = 1; place < 4 * n; place += place % 4 == 1 ? 1 : 3) {
                char was = text.charAt(place);
                text.setCharAt(place, (char) ('0' + n));
                faultIs(text.toString(), place);
                text.setCharAt(place, was);
            }
        }
    }

    @Edge(promise = 4, says = "that of the first digit that names no CROSSING of it")
    static void ofSixEveryDigitNamesOne() {
        faultIs(".55,.55,.55,.55,.55,.55;9", 25);
        faultIs(".00,.11,.22,.33,.44,.55;1", 25);
    }

    @Edge(promise = 4, says = "that of the first digit that names no CROSSING of it")
    static void theFirstOfSeveralThatNameNoneIsTold() {
        faultIs(".55,.55;9", 1);
        faultIs(".05,.55;9", 2);
        faultIs(".00,.55;9", 5);
        faultIs(".00,.05;9", 6);
    }

    @Edge(promise = 4, says = "that of the first digit that names no CROSSING of it")
    static void theOilNamesNoCrossing() {
        faultIs(".01,.10;2", 9);
        faultIs(".01,.10;9", 9);
    }

    @Edge(promise = 4, says = "if there is none, and it is whole")
    static void beforeItIsWholeADigitMayNameNone() {
        faultIs(".55,.55", 7);
        faultIs(".55,.55;", 8);
    }

    @Edge(promise = 4, says = "if there is none, and it is whole")
    static void aLetterTooMuchIsToldBeforeADigitThatNamesNone() {
        faultIs(".55,.55;99", 9);
        faultIs(".55,.55;0", 8);
    }

    @Edge(promise = 4, says = "FULL: above 28.")
    static void aFullPageHasAFault() {
        faultIs(MOST + "...", 25);
        faultIs(".01,.01,.01,.01,.01,.01,.01,", 23);
    }

    // ---- 5 mine

    private static void noMine(String text) {
        refused("mine() of " + text, STATE, () -> written(text), x -> x.mine());
        refused("mine() of " + text, STATE, () -> {
            LanternTongue x = busy();
            x.blank();
            write(x, text);
            return x;
        }, x -> x.mine());
    }

    @Edge(promise = 5, says = "STATE: it is none.")
    static void anEmptyPageIsNone() {
        noMine("");
    }

    @Edge(promise = 5, says = "STATE: it is none.")
    static void noBeginningIsOne() {
        for (int n = 1; n < MOST.length(); n++) {
            noMine(MOST.substring(0, n));
        }
        noMine(LEAST.substring(0, 8));
    }

    @Edge(promise = 5, says = "STATE: it is none.")
    static void oneLetterTooMuchIsNone() {
        noMine(LEAST + "1");
        noMine(LEAST + ";");
        noMine(LEAST + ",");
        noMine(MOST + "1");
        noMine(MOST + ";9.");
    }

    @Edge(promise = 5, says = "numbers of CROSSINGS that there are")
    static void oneThatLeadsNowhereIsNone() {
        noMine(".02,.10;1");
        noMine(".01,.12;1");
        noMine(".20,.10;1");
        noMine(".01,.10,.01,.01,.50;1");
        due("mine() that leads to its last", written(".01,.10,.01,.01,.40;1").mine(), 5);
    }

    @Edge(promise = 5, says = "two to six CROSSINGS")
    static void twoAreTheFewest() {
        LanternTongue x = written(LEAST);
        due("mine()", x.mine(), 2);
        due("count(0)", x.count(0), 2);
        noMine(".00;1");
    }

    @Edge(promise = 5, says = "two to six CROSSINGS")
    static void sixAreTheMost() {
        LanternTongue x = written(MOST);
        due("mine()", x.mine(), 6);
        due("count(0)", x.count(0), 6);
        noMine(".01,.01,.01,.01,.01,.01,.01;");
        noMine(".01,.01,.01,.01,.01,.01,;1");
    }

    @Edge(promise = 5, says = "a digit OIL (1 to 9)")
    static void theLeastOilIs1() {
        LanternTongue x = written(".01,.10;1");
        due("mine()", x.mine(), 2);
        due("count(1)", x.count(1), 1);
        noMine(".01,.10;0");
        noMine(".01,.10;/");
    }

    @Edge(promise = 5, says = "a digit OIL (1 to 9)")
    static void theMostOilIs9() {
        LanternTongue x = written(".01,.10;9");
        due("mine()", x.mine(), 2);
        due("count(1)", x.count(1), 9);
        noMine(".01,.10;:");
        noMine(".01,.10;10");
    }

    @Edge(promise = 5, says = "THE PAGE is empty then.")
    static void thePageIsEmptyThen() {
        LanternTongue x = five();
        due("count(7)", x.count(7), 0);
        due("fault()", x.fault(), 0);
        due("blank()", x.blank(), 0);
        refused("mine() again", STATE, Edges::five, y -> y.mine());
        due("letter", x.letter('.'), 1);
    }

    @Edge(promise = 5, says = "another one is gone, with all that was")
    static void anotherOneIsAsIfItWereTheFirst() {
        LanternTongue x = busy();
        x.blank();
        write(x, MOST);
        due("mine()", x.mine(), 6);
        due("how often", x.count(8), 2);
        LanternTongue y = mined(LEAST);
        write(y, MOST);
        y.mine();
        same("all but how often", x, y);
    }

    @Edge(promise = 5, says = "another one is gone, with all that was")
    static void ofAGreaterOneNothingIsLeft() {
        LanternTongue x = peopled(MOST, 5, 5, 5);
        x.step(0, LEFT);
        x.speak(0);
        x.hear(NONE, 0);
        write(x, LEAST);
        due("mine()", x.mine(), 2);
        due("the third crossing", x.crossing(2, 0), UNKNOWN);
        due("a way to it", x.way(0, 2, 0), UNKNOWN);
        due("where()", x.where(), 3);
        due("the first party", x.about(0, 0), UNKNOWN);
        due("party(5)", x.party(5), UNKNOWN);
        due("party(1)", x.party(1), 0);
        due("its oil", x.about(0, 1), 1);
        due("its steps", x.about(0, 2), 0);
        due("it never spoke", x.about(0, 3), NONE);
    }

    @Edge(promise = 5, says = "another one is gone, with all that was")
    static void theImageIsGone() {
        LanternTongue x = busy();
        due("mine()", x.mine(), 2);
        due("restore()", x.restore(), STATE);
    }

    @Edge(promise = 5, says = "another one is gone, with all that was")
    static void whatWasHeardBeforeTheFirstOneIsGone() {
        LanternTongue x = fresh();
        due("hear(NONE, 2)", x.hear(NONE, 2), 1);
        write(x, LEAST);
        due("mine()", x.mine(), 2);
        due("count(6)", x.count(6), 0);
        due("where()", x.where(), 3);
    }

    // ---- 6 crossing

    @Edge(promise = 6, says = "UNKNOWN (a number names nothing)")
    static void crossing0IsTheFirst() {
        due("crossing(0, 0)", five().crossing(0, 0), 0);
        refusedWith("crossing", UNKNOWN, Edges::busy, (x, c) -> x.crossing(c, 0), -1, LOW);
    }

    @Edge(promise = 6, says = "UNKNOWN (a number names nothing)")
    static void theLastCrossingIsOneLessThanThereAre() {
        due("crossing(1, 0) of 2", mined(LEAST).crossing(1, 0), 0);
        refusedWith("crossing of 2", UNKNOWN, () -> mined(LEAST), (x, c) -> x.crossing(c, 0), 2, 5, HIGH);
        due("crossing(4, 0) of 5", five().crossing(4, 0), 4);
        refusedWith("crossing of 5", UNKNOWN, Edges::busy, (x, c) -> x.crossing(c, 0), 5, 6, HIGH);
        due("crossing(5, 0) of 6", mined(MOST).crossing(5, 0), 0);
        refusedWith("crossing of 6", UNKNOWN, () -> mined(MOST), (x, c) -> x.crossing(c, 0), 6, HIGH);
    }

    @Edge(promise = 6, says = "what = 0 KIND, 1 where LEFT leads, 2 where RIGHT does (as they are gone)")
    static void whatIs0AtLeast() {
        told("crossing(2, 0)", 2, Edges::busy, x -> x.crossing(2, 0));
        refusedWith("crossing, what", OUTSIDE, Edges::busy, (x, what) -> x.crossing(2, what), -1, LOW);
    }

    @Edge(promise = 6, says = "5 which PARTIES are there, as bits.")
    static void whatIs5AtMost() {
        told("crossing(4, 5)", 2, Edges::busy, x -> x.crossing(4, 5));
        refusedWith("crossing, what", OUTSIDE, Edges::busy, (x, what) -> x.crossing(4, what), 6, HIGH);
    }

    @Edge(promise = 6, says = "UNKNOWN; OUTSIDE.")
    static void noCrossingIsToldBeforeAWrongWhat() {
        refusedWith("crossing, what -1", UNKNOWN, Edges::busy, (x, c) -> x.crossing(c, -1), -1, 5, LOW, HIGH);
        refusedWith("crossing, what 6", UNKNOWN, Edges::busy, (x, c) -> x.crossing(c, 6), -1, 5, LOW, HIGH);
        refused("crossing(0, 6) without a mine", UNKNOWN, Edges::fresh, x -> x.crossing(0, 6));
    }

    @Edge(promise = 6, says = "From a SQUEEZE LEFT and RIGHT lead the other way about.")
    static void onlyASqueezeLeadsTheOtherWayAbout() {
        for (char kind : KINDS.toCharArray()) {
            LanternTongue x = mined(kind + "01,.00;1");
            due("LEFT of " + kind, x.crossing(0, 1), kind == 's' ? 1 : 0);
            due("RIGHT of " + kind, x.crossing(0, 2), kind == 's' ? 0 : 1);
        }
    }

    @Edge(promise = 6, says = "The SOUND of a DRIP is 1, of a WELL 2, of others 0.")
    static void everyKindHasItsSound() {
        int[] sounds = {0, 1, 0, 0, 2};
        for (int kind = 0; kind < 5; kind++) {
            due("the sound of " + kind, mined(KINDS.charAt(kind) + "01,d00;1").crossing(0, 3), sounds[kind]);
        }
    }

    @Edge(promise = 6, says = "To come to a CROSSING burns 1 OIL; to BATS 3.")
    static void onlyBatsBurn3() {
        for (int kind = 0; kind < 5; kind++) {
            due("what it burns to " + kind, mined(KINDS.charAt(kind) + "01,b00;1").crossing(0, 4), kind == 3 ? 3 : 1);
        }
    }

    @Edge(promise = 6, says = "which PARTIES are there, as bits")
    static void noneAndAllPartiesAreThere() {
        due("none", mined(MOST).crossing(5, 5), 0);
        LanternTongue x = peopled(MOST, 5, 5, 5);
        due("all", x.crossing(5, 5), 7);
        due("none elsewhere", x.crossing(0, 5), 0);
        x.step(1, LEFT);
        due("all but the second", x.crossing(5, 5), 5);
        due("the second", x.crossing(0, 5), 2);
    }

    // ---- 7 as

    @Edge(promise = 7, says = "UNKNOWN (a number names nothing)")
    static void asOfCrossing0IsTheFirst() {
        told("as(0, 0)", 0, Edges::busy, x -> x.as(0, 0));
        refusedWith("as", UNKNOWN, Edges::busy, (x, c) -> x.as(c, 0), -1, LOW);
    }

    @Edge(promise = 7, says = "UNKNOWN (a number names nothing)")
    static void asOfTheLastCrossingIsTheLast() {
        told("as(4, 0)", 4, Edges::busy, x -> x.as(4, 0));
        refusedWith("as", UNKNOWN, Edges::busy, (x, c) -> x.as(c, 0), 5, 6, HIGH);
        due("as(5, 0) of 6", mined(MOST).as(5, 0), 5);
        due("as(1, 0) of 2", mined(LEAST).as(1, 0), 1);
        refused("as(2, 0) of 2", UNKNOWN, () -> mined(LEAST), x -> x.as(2, 0));
    }

    @Edge(promise = 7, says = "KINDS are told by the sign: 0 CROSSING")
    static void kind0IsTheFirst() {
        due("as(0, 0)", five().as(0, 0), 0);
        refusedWith("as, kind", OUTSIDE, Edges::busy, (x, kind) -> x.as(0, kind), -1, LOW);
    }

    @Edge(promise = 7, says = "3 BATS \"b\", 4 WELL \"w\".")
    static void kind4IsTheLast() {
        due("as(4, 4)", five().as(4, 4), 4);
        refusedWith("as, kind", OUTSIDE, Edges::busy, (x, kind) -> x.as(4, kind), 5, HIGH);
    }

    @Edge(promise = 7, says = "UNKNOWN; OUTSIDE.")
    static void asOfNoCrossingIsToldBeforeAWrongKind() {
        refusedWith("as, kind -1", UNKNOWN, Edges::busy, (x, c) -> x.as(c, -1), -1, 5, LOW, HIGH);
        refusedWith("as, kind 5", UNKNOWN, Edges::busy, (x, c) -> x.as(c, 5), -1, 5, LOW, HIGH);
    }

    @Edge(promise = 7, says = "All are CROSSINGS; a WELL is a DRIP, too.")
    static void allAreCrossingsAndAWellIsADrip() {
        for (int c = 0; c < 5; c++) {
            due("as(" + c + ", 0)", five().as(c, 0), c);
            due("as(" + c + ", " + c + ")", five().as(c, c), c);
        }
        due("a well as a drip", five().as(4, 1), 4);
    }

    @Edge(promise = 7, says = "NONE: it is none such (the cast fails).")
    static void noOtherCastHolds() {
        for (int c = 0; c < 5; c++) {
            for (int kind = 1; kind < 5; kind++) {
                if (kind != c && !(c == 4 && kind == 1)) {
                    due("as(" + c + ", " + kind + ")", five().as(c, kind), NONE);
                }
            }
        }
    }

    public static void main(String[] args) throws Exception {
        run(MineEdgesTest.class, 1, 7);
    }
}
