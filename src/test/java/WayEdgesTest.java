/** The edges of promises 14 to 17: ways, rounds, meetings, what can be told apart. */
public final class WayEdgesTest extends Edges {
    /** From the first to the last there are as many STEPS as can be; none leads back. */
    private static final String CHAIN = ".11,.22,.33,.44,.55,.55;1";
    /** No CROSSING leads to another one. */
    private static final String SHUT = ".00,.11;1";

    // ---- 14 way

    @Edge(promise = 14, says = "UNKNOWN: from, to; OUTSIDE.")
    static void crossing0IsTheFirstToGoFromAndTo() {
        told("way(0, 0, 0)", 0, Edges::busy, x -> x.way(0, 0, 0));
        refusedWith("way, from", UNKNOWN, Edges::busy, (x, from) -> x.way(from, 0, 0), -1, LOW);
        refusedWith("way, to", UNKNOWN, Edges::busy, (x, to) -> x.way(0, to, 0), -1, LOW);
    }

    @Edge(promise = 14, says = "UNKNOWN: from, to; OUTSIDE.")
    static void theLastCrossingIsTheLastToGoFromAndTo() {
        told("way(4, 4, 0)", 0, Edges::busy, x -> x.way(4, 4, 0));
        refusedWith("way, from", UNKNOWN, Edges::busy, (x, from) -> x.way(from, 0, 0), 5, 6, HIGH);
        refusedWith("way, to", UNKNOWN, Edges::busy, (x, to) -> x.way(0, to, 0), 5, 6, HIGH);
        due("way(5, 5, 0) of 6", mined(MOST).way(5, 5, 0), 0);
        refusedWith("way of 6, to", UNKNOWN, () -> mined(MOST), (x, to) -> x.way(5, to, 0), 6, HIGH);
        due("way(1, 1, 0) of 2", mined(LEAST).way(1, 1, 0), 0);
        refused("way(2, 1, 0) of 2", UNKNOWN, () -> mined(LEAST), x -> x.way(2, 1, 0));
        refused("way(1, 2, 0) of 2", UNKNOWN, () -> mined(LEAST), x -> x.way(1, 2, 0));
    }

    @Edge(promise = 14, says = "WAY: what = 0 how many STEPS")
    static void wayOfWhat0AtLeast() {
        told("way(0, 4, 0)", 2, Edges::busy, x -> x.way(0, 4, 0));
        refusedWith("way, what", OUTSIDE, Edges::busy, (x, what) -> x.way(0, 4, what), -1, LOW);
    }

    @Edge(promise = 14, says = "2 the least OIL")
    static void wayOfWhat2AtMost() {
        told("way(0, 4, 2)", 2, Edges::busy, x -> x.way(0, 4, 2));
        refusedWith("way, what", OUTSIDE, Edges::busy, (x, what) -> x.way(0, 4, what), 3, HIGH);
    }

    @Edge(promise = 14, says = "UNKNOWN: from, to; OUTSIDE.")
    static void noCrossingIsToldBeforeAWrongWhatOfAWay() {
        refusedWith("way, from, what 3", UNKNOWN, Edges::busy, (x, from) -> x.way(from, 0, 3), -1, 5, LOW, HIGH);
        refusedWith("way, to, what 3", UNKNOWN, Edges::busy, (x, to) -> x.way(0, to, 3), -1, 5, LOW, HIGH);
        refusedWith("way, both, what -1", UNKNOWN, Edges::busy, (x, c) -> x.way(c, c, -1), -1, 5, LOW, HIGH);
        refused("way without a mine", UNKNOWN, Edges::fresh, x -> x.way(0, 0, 3));
    }

    @Edge(promise = 14, says = "1 which first (NONE: they are there)")
    static void theyAreThere() {
        for (String mine : new String[] {SHUT, CHAIN, FIVE}) {
            for (int c = 0; c < 2; c++) {
                due("steps", mined(mine).way(c, c, 0), 0);
                due("first", mined(mine).way(c, c, 1), NONE);
                due("oil", mined(mine).way(c, c, 2), 0);
            }
        }
        due("no oil to be at bats", mined("b00,.11;1").way(0, 0, 2), 0);
    }

    @Edge(promise = 14, says = "NONE: there is none. UNKNOWN: from, to; OUTSIDE.")
    static void noWayLeadsThere() {
        for (int what = 0; what <= 2; what++) {
            due("what " + what, mined(SHUT).way(0, 1, what), NONE);
            due("back, what " + what, mined(CHAIN).way(5, 0, what), NONE);
            due("one back, what " + what, mined(CHAIN).way(1, 0, what), NONE);
        }
    }

    @Edge(promise = 14, says = "the fewest STEPS (OIL does not matter)")
    static void theLongestWayIsFiveStepsWithAnyOil() {
        due("steps", mined(CHAIN).way(0, 5, 0), 5);
        due("oil", mined(CHAIN).way(0, 5, 2), 5);
        due("one step", mined(CHAIN).way(4, 5, 0), 1);
        due("nobody needs to have that oil", mined("b11,b22,b33,b44,b55,b55;1").way(0, 5, 2), 15);
    }

    @Edge(promise = 14, says = "by which STEP first (LEFT, if both do)")
    static void leftIfBothDo() {
        due("both lead there", mined(".11,.00;1").way(0, 1, 1), LEFT);
        due("both lead on", mined(".12,.33,.33,.33;1").way(0, 3, 1), LEFT);
        due("both, from a squeeze", mined("s12,.33,.33,.33;1").way(0, 3, 1), LEFT);
    }

    @Edge(promise = 14, says = "by which STEP first (LEFT, if both do)")
    static void theShorterIfOneDoes() {
        due("only right", mined(".01,.11;1").way(0, 1, 1), RIGHT);
        due("only left", mined(".10,.11;1").way(0, 1, 1), LEFT);
        due("right is shorter", mined(".12,.22,.22;1").way(0, 2, 1), RIGHT);
        due("left is shorter", mined(".21,.22,.22;1").way(0, 2, 1), LEFT);
        due("a squeeze turned about", mined("s01,.11;1").way(0, 1, 1), LEFT);
    }

    @Edge(promise = 14, says = "the least OIL burnt on any way")
    static void theLeastOilMayBeOnALongerWay() {
        // By the bats at 1 it is two STEPS and 4 OIL, by 2 and 4 three STEPS and 3 OIL.
        LanternTongue x = mined(".12,b33,.44,.33,.33;1");
        due("steps", x.way(0, 3, 0), 2);
        due("first", x.way(0, 3, 1), LEFT);
        due("oil", x.way(0, 3, 2), 3);
    }

    @Edge(promise = 14, says = "To come to a CROSSING burns 1 OIL; to BATS 3.")
    static void batsBurnWhereTheyAreComeTo() {
        due("to bats", mined(".11,b00;1").way(0, 1, 2), 3);
        due("from bats", mined(".11,b00;1").way(1, 0, 2), 1);
    }

    // ---- 15 round

    @Edge(promise = 15, says = "ROUND: what = 0 how many STEPS, 1 which first; NONE: there is none. UNKNOWN; OUTSIDE.")
    static void crossing0IsTheFirstToGoRoundFrom() {
        due("round(0, 0)", mined(CHAIN).round(0, 0), 5);
        refusedWith("round", UNKNOWN, Edges::busy, (x, from) -> x.round(from, 0), -1, LOW);
    }

    @Edge(promise = 15, says = "ROUND: what = 0 how many STEPS, 1 which first; NONE: there is none. UNKNOWN; OUTSIDE.")
    static void theLastCrossingIsTheLastToGoRoundFrom() {
        due("round(1, 0) of 2", mined(LEAST).round(1, 0), 1);
        refusedWith("round of 2", UNKNOWN, () -> mined(LEAST), (x, from) -> x.round(from, 0), 2, 5, HIGH);
        refusedWith("round of 5", UNKNOWN, Edges::busy, (x, from) -> x.round(from, 0), 5, 6, HIGH);
        due("round(5, 0) of 6", mined(".11,.22,.33,.44,.55,.00;1").round(5, 0), 5);
        refusedWith("round of 6", UNKNOWN, () -> mined(MOST), (x, from) -> x.round(from, 0), 6, HIGH);
    }

    @Edge(promise = 15, says = "ROUND: what = 0 how many STEPS, 1 which first")
    static void roundOfWhat0And1() {
        told("round(0, 0)", 1, () -> mined(LEAST), x -> x.round(0, 0));
        refusedWith("round, what", OUTSIDE, Edges::busy, (x, what) -> x.round(0, what), -1, LOW);
        told("round(0, 1)", RIGHT, () -> mined(LEAST), x -> x.round(0, 1));
        refusedWith("round, what", OUTSIDE, Edges::busy, (x, what) -> x.round(0, what), 2, HIGH);
    }

    @Edge(promise = 15, says = "of several the first as told by each call")
    static void noCrossingIsToldBeforeAWrongWhatOfARound() {
        refusedWith("round, what 2", UNKNOWN, Edges::busy, (x, from) -> x.round(from, 2), -1, 5, LOW, HIGH);
        refusedWith("round, what -1", UNKNOWN, Edges::busy, (x, from) -> x.round(from, -1), -1, 5, LOW, HIGH);
        refused("round without a mine", UNKNOWN, Edges::fresh, x -> x.round(0, 2));
    }

    @Edge(promise = 15, says = "so that all CROSSINGS were come to (it is itself at first)")
    static void whereItBeginsNeedNotBeComeToAgain() {
        due("none leads back to 0", mined(".11,.11;1").round(0, 0), 1);
        due("none leads back along the chain", mined(CHAIN).round(0, 0), 5);
        due("the fewest of two", mined(".11,.00;1").round(0, 0), 1);
    }

    @Edge(promise = 15, says = "Each none, if there is none.")
    static void oneThatCannotBeComeToLeavesNoRound() {
        for (int what = 0; what <= 1; what++) {
            due("shut, what " + what, mined(SHUT).round(0, what), NONE);
            due("the first is left out, what " + what, mined(CHAIN).round(1, what), NONE);
            due("either, not both, what " + what, mined(".12,.11,.22;1").round(0, what), NONE);
        }
    }

    @Edge(promise = 15, says = "the fewest STEPS so that all CROSSINGS were come to")
    static void aRoundMayComeThroughOneAgain() {
        // 1 0 2 3 0 2 4 5: to the left first, or by 3 first and 1 at last, which is no shorter.
        LanternTongue x = mined(".12,.00,.34,.00,.55,.00;1");
        due("steps", x.round(0, 0), 8);
        due("there and back and there", mined(".12,.00,.00;1").round(0, 0), 3);
    }

    @Edge(promise = 15, says = "by which STEP first. Each none")
    static void theFirstOfARoundIsTheOneThatIsOnIt() {
        due("only right", mined(".21,.22,.22;1").round(0, 1), RIGHT);
        due("only left", mined(".12,.22,.22;1").round(0, 1), LEFT);
        due("like ones", mined(".12,.00,.00;1").round(0, 1), LEFT);
        due("both lead there", mined(".11,.00;1").round(0, 1), LEFT);
    }

    // ---- 16 meet

    @Edge(promise = 16, says = "MEET; NONE. UNKNOWN: a, b.")
    static void party0IsTheFirstToMeet() {
        told("meet(0, 0)", 0, Edges::busy, x -> x.meet(0, 0));
        refusedWith("meet, a", UNKNOWN, Edges::busy, (x, a) -> x.meet(a, 0), -1, LOW);
        refusedWith("meet, b", UNKNOWN, Edges::busy, (x, b) -> x.meet(0, b), -1, LOW);
        refused("meet(0, 0) of nobody", UNKNOWN, Edges::five, x -> x.meet(0, 0));
    }

    @Edge(promise = 16, says = "MEET; NONE. UNKNOWN: a, b.")
    static void theLastThatCameIsTheLastToMeet() {
        told("meet(1, 1) of 2", 0, Edges::busy, x -> x.meet(1, 1));
        refusedWith("meet of 2, a", UNKNOWN, Edges::busy, (x, a) -> x.meet(a, 1), 2, 3, HIGH);
        refusedWith("meet of 2, b", UNKNOWN, Edges::busy, (x, b) -> x.meet(1, b), 2, 3, HIGH);
        refusedWith("meet of 2, both", UNKNOWN, Edges::busy, (x, p) -> x.meet(p, p), -1, 2, LOW, HIGH);
        told("meet(2, 2) of 3", 0, Edges::full, x -> x.meet(2, 2));
        refusedWith("meet of 3, a", UNKNOWN, Edges::full, (x, a) -> x.meet(a, 2), 3, HIGH);
        refusedWith("meet of 3, b", UNKNOWN, Edges::full, (x, b) -> x.meet(2, b), 3, HIGH);
    }

    @Edge(promise = 16, says = "so that both are at one CROSSING then (0: they are)")
    static void theyAreAtOneCrossingNow() {
        due("two", peopled(SHUT, 1, 1).meet(0, 1), 0);
        due("one and itself", peopled(SHUT, 1).meet(0, 0), 0);
        due("not yet", peopled(CHAIN, 4, 5).meet(0, 1), 1);
    }

    @Edge(promise = 16, says = "both STEP at once")
    static void neitherMayWait() {
        due("they change places", peopled(".11,.00;1", 0, 1).meet(0, 1), NONE);
        due("one may go to itself", peopled(".11,.10;1", 0, 1).meet(0, 1), 1);
    }

    @Edge(promise = 16, says = "both STEP at once")
    static void eachMayGoEitherWay() {
        // The first at 0, the second at 1; 4 is where one way of each leads, 2 and 3 are shut.
        for (String mine : new String[] {".42,.43,.22,.33,.44;1", ".42,.34,.22,.33,.44;1",
                ".24,.43,.22,.33,.44;1", ".24,.34,.22,.33,.44;1"}) {
            due("in " + mine, peopled(mine, 0, 1).meet(0, 1), 1);
            due("either way about in " + mine, peopled(mine, 0, 1).meet(1, 0), 1);
        }
    }

    @Edge(promise = 16, says = "the fewest times, so that both are at one CROSSING then (0: they are); none.")
    static void theyNeverMeet() {
        due("shut", peopled(SHUT, 0, 1).meet(0, 1), NONE);
        due("back", peopled(SHUT, 0, 1).meet(1, 0), NONE);
    }

    @Edge(promise = 16, says = "both STEP at once (OIL does not matter)")
    static void theyMeetWithoutOil() {
        LanternTongue x = peopled(CHAIN, 0, 5);
        x.step(1, LEFT);
        due("oil of the second", x.about(1, 1), 0);
        due("five times with 1 and 0 oil", x.meet(0, 1), 5);
        due("either way about", x.meet(1, 0), 5);
    }

    // ---- 17 apart

    @Edge(promise = 17, says = "UNKNOWN: a, b; OUTSIDE.")
    static void crossing0IsTheFirstToTellApart() {
        told("apart(0, 1, 0)", 0, Edges::busy, x -> x.apart(0, 1, 0));
        refusedWith("apart, a", UNKNOWN, Edges::busy, (x, a) -> x.apart(a, 0, 0), -1, LOW);
        refusedWith("apart, b", UNKNOWN, Edges::busy, (x, b) -> x.apart(0, b, 0), -1, LOW);
    }

    @Edge(promise = 17, says = "UNKNOWN: a, b; OUTSIDE.")
    static void theLastCrossingIsTheLastToTellApart() {
        told("apart(4, 0, 0)", 0, Edges::busy, x -> x.apart(4, 0, 0));
        refusedWith("apart, a", UNKNOWN, Edges::busy, (x, a) -> x.apart(a, 4, 0), 5, 6, HIGH);
        refusedWith("apart, b", UNKNOWN, Edges::busy, (x, b) -> x.apart(4, b, 0), 5, 6, HIGH);
        due("apart(4, 5, 0) of 6", mined(MOST).apart(4, 5, 0), 0);
        refusedWith("apart of 6, b", UNKNOWN, () -> mined(MOST), (x, b) -> x.apart(5, b, 0), 6, HIGH);
        due("apart(1, 0, 0) of 2", mined("d01,w00;1").apart(1, 0, 0), 0);
        refusedWith("apart of 2, a", UNKNOWN, () -> mined(LEAST), (x, a) -> x.apart(a, 0, 0), 2, 5, HIGH);
    }

    @Edge(promise = 17, says = "APART: what = 0 how many STEPS, 1 which first")
    static void apartOfWhat0And1() {
        told("apart(1, 3, 0)", 0, Edges::busy, x -> x.apart(1, 3, 0));
        refusedWith("apart, what", OUTSIDE, Edges::busy, (x, what) -> x.apart(1, 3, what), -1, LOW);
        told("apart(1, 3, 1)", NONE, Edges::busy, x -> x.apart(1, 3, 1));
        refusedWith("apart, what", OUTSIDE, Edges::busy, (x, what) -> x.apart(1, 3, what), 2, HIGH);
    }

    @Edge(promise = 17, says = "of several the first as told by each call")
    static void noCrossingIsToldBeforeAWrongWhatOfApart() {
        refusedWith("apart, a, what 2", UNKNOWN, Edges::busy, (x, a) -> x.apart(a, 0, 2), -1, 5, LOW, HIGH);
        refusedWith("apart, b, what 2", UNKNOWN, Edges::busy, (x, b) -> x.apart(0, b, 2), -1, 5, LOW, HIGH);
        refusedWith("apart, both, what -1", UNKNOWN, Edges::busy, (x, c) -> x.apart(c, c, -1), -1, 5, LOW, HIGH);
        refused("apart without a mine", UNKNOWN, Edges::fresh, x -> x.apart(0, 0, 2));
    }

    @Edge(promise = 17, says = "(0: the SOUNDS there are unlike)")
    static void unlikeSoundsNeedNoStep() {
        for (String mine : new String[] {".00,d11;1", ".00,w11;1", "d00,w11;1", "s00,d11;1", "b00,w11;1"}) {
            due("steps in " + mine, mined(mine).apart(0, 1, 0), 0);
            due("first in " + mine, mined(mine).apart(0, 1, 1), NONE);
            due("either way about in " + mine, mined(mine).apart(1, 0, 0), 0);
        }
    }

    @Edge(promise = 17, says = "NONE: they are alike.")
    static void alikeAreThoseThatNoStepsTellApart() {
        for (int what = 0; what <= 1; what++) {
            due("itself, what " + what, mined(FIVE).apart(2, 2, what), NONE);
            due("shut, what " + what, mined(SHUT).apart(0, 1, what), NONE);
            due("other kinds of no sound, what " + what, mined("s11,b00;1").apart(0, 1, what), NONE);
            due("to the same, what " + what, mined(".22,.22,d22;1").apart(0, 1, what), NONE);
        }
    }

    @Edge(promise = 17, says = "by how few STEPS those who may be at either of them know at which they were")
    static void theMostStepsThatAreNeeded() {
        LanternTongue x = mined(".11,.22,.33,.44,.55,d55;1");
        due("four", x.apart(0, 1, 0), 4);
        due("three", x.apart(2, 1, 0), 3);
        due("one", x.apart(3, 4, 0), 1);
        due("none", x.apart(4, 5, 0), 0);
    }

    @Edge(promise = 17, says = "by which STEP first (LEFT, if both do); none: they are alike.")
    static void leftIfBothTellApart() {
        due("both", mined(".11,.22,d22;1").apart(0, 1, 1), LEFT);
        due("only left", mined(".00,.20,d22;1").apart(0, 1, 1), LEFT);
        due("only right", mined(".00,.02,d22;1").apart(0, 1, 1), RIGHT);
        due("right is shorter", mined(".10,.23,.22,d33;1").apart(0, 1, 1), RIGHT);
    }

    @Edge(promise = 17, says = "From a SQUEEZE LEFT and RIGHT lead the other way about.")
    static void aSqueezeIsToldByWhereItLeads() {
        LanternTongue x = mined("s12,.12,d22;1");
        due("steps", x.apart(0, 1, 0), 1);
        due("first", x.apart(0, 1, 1), LEFT);
        due("of like leads without one", mined(".12,.12,d22;1").apart(0, 1, 0), NONE);
    }

    public static void main(String[] args) throws Exception {
        run(WayEdgesTest.class, 14, 17);
    }
}
