/** The edges of promises 8 to 13: parties that step, speak, look and fill. */
public final class PartyEdgesTest extends Edges {
    /** Each leads to itself by LEFT, to the other by RIGHT; the second is BATS. */
    private static final String BATS = ".01,b10;";

    private static LanternTongue alone(String mine, int crossing) {
        return peopled(mine, crossing);
    }

    private static LanternTongue twoOf(String mine) {
        return peopled(mine, 0, 1);
    }

    /** Party 0 has made so many STEPS to where it was, and SPOKE behind the first so many of them. */
    private static LanternTongue spoken(int before, int since) {
        LanternTongue x = alone("d00,.11;9", 0);
        for (int n = 0; n < before; n++) {
            x.step(0, LEFT);
        }
        x.speak(0);
        for (int n = 0; n < since; n++) {
            x.step(0, LEFT);
        }
        return x;
    }

    // ---- 8 party

    @Edge(promise = 8, says = "UNKNOWN: crossing; FULL.")
    static void aPartyMayComeToTheFirstCrossing() {
        due("party(0)", five().party(0), 0);
        refusedWith("party", UNKNOWN, Edges::five, LanternTongue::party, -1, LOW);
        refusedWith("party", UNKNOWN, Edges::busy, LanternTongue::party, -1, LOW);
    }

    @Edge(promise = 8, says = "UNKNOWN: crossing; FULL.")
    static void aPartyMayComeToTheLastCrossing() {
        due("party(1) of 2", mined(LEAST).party(1), 0);
        refusedWith("party of 2", UNKNOWN, () -> mined(LEAST), LanternTongue::party, 2, 5, HIGH);
        due("party(4) of 5", five().party(4), 0);
        refusedWith("party of 5", UNKNOWN, Edges::busy, LanternTongue::party, 5, 6, HIGH);
        due("party(5) of 6", mined(MOST).party(5), 0);
        refusedWith("party of 6", UNKNOWN, () -> mined(MOST), LanternTongue::party, 6, HIGH);
    }

    @Edge(promise = 8, says = "UNKNOWN: crossing; FULL.")
    static void withoutAMineNoneMayCome() {
        refusedWith("party", UNKNOWN, Edges::fresh, LanternTongue::party, -1, 0, 1, LOW, HIGH);
    }

    @Edge(promise = 8, says = "PARTIES (3 at most, numbered)")
    static void theThirdIsTheLast() {
        LanternTongue x = five();
        due("the first", x.party(0), 0);
        due("the second", x.party(0), 1);
        due("the third", x.party(0), 2);
        refusedWith("a fourth", FULL, () -> peopled(FIVE, 0, 0, 0), LanternTongue::party, 0, 1, 4);
        refusedWith("a fourth", FULL, Edges::full, LanternTongue::party, 0, 1, 4);
    }

    @Edge(promise = 8, says = "of several the first as told by each call")
    static void aFourthAtNoCrossingIsUnknown() {
        refusedWith("a fourth", UNKNOWN, Edges::full, LanternTongue::party, -1, 5, LOW, HIGH);
    }

    @Edge(promise = 8, says = "those that come since are gone by restore()")
    static void whenSomeAreGoneThereIsRoomAgain() {
        LanternTongue x = peopled(FIVE, 0, 1);
        x.image();
        due("the third", x.party(2), 2);
        x.step(2, LEFT);
        x.speak(2);
        due("a fourth", x.party(2), FULL);
        x.restore();
        due("the third anew", x.party(3), 2);
        int[] anew = {3, 5, 0, NONE, 1};
        for (int what = 0; what <= 4; what++) {
            due("about(2, " + what + ")", x.about(2, what), anew[what]);
        }
        due("a fourth again", x.party(2), FULL);
    }

    @Edge(promise = 8, says = "come to a CROSSING with as much OIL as is told")
    static void theyComeWithTheLeastAndTheMostOil() {
        due("1", alone(".01,.10;1", 0).about(0, 1), 1);
        due("9", alone(".01,.10;9", 0).about(0, 1), 9);
        due("to come to BATS as a party burns none", alone("b01,.10;1", 0).about(0, 1), 1);
    }

    // ---- 9 about

    @Edge(promise = 9, says = "UNKNOWN (a number names nothing)")
    static void aboutParty0IsTheFirst() {
        told("about(0, 0)", 1, Edges::busy, x -> x.about(0, 0));
        refusedWith("about", UNKNOWN, Edges::busy, (x, p) -> x.about(p, 0), -1, LOW);
        refused("about(0, 0) of nobody", UNKNOWN, Edges::five, x -> x.about(0, 0));
    }

    @Edge(promise = 9, says = "UNKNOWN (a number names nothing)")
    static void aboutTheLastPartyThatCame() {
        told("about(1, 0) of 2", 4, Edges::busy, x -> x.about(1, 0));
        refusedWith("about of 2", UNKNOWN, Edges::busy, (x, p) -> x.about(p, 0), 2, 3, HIGH);
        told("about(2, 0) of 3", 4, Edges::full, x -> x.about(2, 0));
        refusedWith("about of 3", UNKNOWN, Edges::full, (x, p) -> x.about(p, 0), 3, HIGH);
    }

    @Edge(promise = 9, says = "Of a PARTY: what = 0 where it is")
    static void aboutWhat0AtLeast() {
        due("about(0, 0)", busy().about(0, 0), 1);
        refusedWith("about, what", OUTSIDE, Edges::busy, (x, what) -> x.about(0, what), -1, LOW);
    }

    @Edge(promise = 9, says = "4 whether it may LOOK (1, 0).")
    static void aboutWhat4AtMost() {
        due("about(0, 4)", busy().about(0, 4), 0);
        refusedWith("about, what", OUTSIDE, Edges::busy, (x, what) -> x.about(0, what), 5, HIGH);
    }

    @Edge(promise = 9, says = "UNKNOWN; OUTSIDE.")
    static void noPartyIsToldBeforeAWrongWhat() {
        refusedWith("about, what -1", UNKNOWN, Edges::busy, (x, p) -> x.about(p, -1), -1, 2, LOW, HIGH);
        refusedWith("about, what 5", UNKNOWN, Edges::busy, (x, p) -> x.about(p, 5), -1, 2, LOW, HIGH);
    }

    @Edge(promise = 9, says = "how many STEPS it made since it SPOKE (NONE: it never did)")
    static void itNeverSpoke() {
        LanternTongue x = alone("d00,.11;9", 0);
        due("at first", x.about(0, 3), NONE);
        x.step(0, LEFT);
        x.step(0, LEFT);
        due("by two steps", x.about(0, 3), NONE);
    }

    @Edge(promise = 9, says = "how many STEPS it made since it SPOKE (NONE: it never did)")
    static void itSpokeWithoutAStepSince() {
        due("before any step", spoken(0, 0).about(0, 3), 0);
        due("behind steps", spoken(3, 0).about(0, 3), 0);
    }

    @Edge(promise = 9, says = "how many STEPS it made since it SPOKE (NONE: it never did)")
    static void theLatestTimeItSpokeCounts() {
        LanternTongue x = spoken(0, 3);
        due("since the first", x.about(0, 3), 3);
        x.speak(0);
        due("since the latest", x.about(0, 3), 0);
    }

    @Edge(promise = 9, says = "4 whether it may LOOK (1, 0).")
    static void mayLookAtEachEdge() {
        due("never spoke", alone(FIVE, 0).about(0, 4), 1);
        due("0 steps since", spoken(0, 0).about(0, 4), 0);
        due("1 step since", spoken(0, 1).about(0, 4), 0);
        due("2 steps since", spoken(0, 2).about(0, 4), 1);
        due("3 steps since", spoken(0, 3).about(0, 4), 1);
        LanternTongue x = alone("d00,.11;1", 0);
        due("1 oil", x.about(0, 4), 1);
        x.step(0, LEFT);
        due("0 oil", x.about(0, 4), 0);
    }

    // ---- 10 step

    @Edge(promise = 10, says = "UNKNOWN: party; OUTSIDE: way (0, 1)")
    static void party0IsTheFirstToStep() {
        due("step(0, 0)", busy().step(0, LEFT), 2);
        refusedWith("step", UNKNOWN, Edges::busy, (x, p) -> x.step(p, LEFT), -1, LOW);
        refused("step(0, 0) of nobody", UNKNOWN, Edges::five, x -> x.step(0, LEFT));
    }

    @Edge(promise = 10, says = "UNKNOWN: party; OUTSIDE: way (0, 1)")
    static void theLastThatCameIsTheLastToStep() {
        due("step(1, 0) of 2", busy().step(1, LEFT), 0);
        refusedWith("step of 2", UNKNOWN, Edges::busy, (x, p) -> x.step(p, LEFT), 2, 3, HIGH);
        due("step(2, 0) of 3", full().step(2, LEFT), 0);
        refusedWith("step of 3", UNKNOWN, Edges::full, (x, p) -> x.step(p, LEFT), 3, HIGH);
    }

    @Edge(promise = 10, says = "OUTSIDE: way (0, 1)")
    static void theWaysAreLeftAndRight() {
        due("step(0, 0)", alone(FIVE, 0).step(0, 0), 1);
        refusedWith("step, way", OUTSIDE, Edges::busy, (x, way) -> x.step(0, way), -1, LOW);
        due("step(0, 1)", alone(FIVE, 0).step(0, 1), 2);
        refusedWith("step, way", OUTSIDE, Edges::busy, (x, way) -> x.step(0, way), 2, HIGH);
    }

    @Edge(promise = 10, says = "STATE: it has not as much OIL.")
    static void theLastOilIsEnoughForACrossing() {
        LanternTongue x = alone(BATS + "1", 0);
        due("with 1", x.step(0, LEFT), 0);
        due("oil then", x.about(0, 1), 0);
        refused("with 0", STATE, () -> {
            LanternTongue y = alone(BATS + "1", 0);
            y.step(0, LEFT);
            return y;
        }, y -> y.step(0, LEFT));
    }

    @Edge(promise = 10, says = "STATE: it has not as much OIL.")
    static void threeOilAreEnoughForBats() {
        LanternTongue x = alone(BATS + "3", 0);
        due("with 3", x.step(0, RIGHT), 1);
        due("oil then", x.about(0, 1), 0);
        refused("with 2", STATE, () -> alone(BATS + "2", 0), y -> y.step(0, RIGHT));
        refused("with 1", STATE, () -> alone(BATS + "1", 0), y -> y.step(0, RIGHT));
        LanternTongue z = alone(BATS + "4", 0);
        due("with 4", z.step(0, RIGHT), 1);
        due("oil then", z.about(0, 1), 1);
    }

    @Edge(promise = 10, says = "To come to a CROSSING burns 1 OIL; to BATS 3.")
    static void whereItGoesToBurnsNotWhereItIs() {
        LanternTongue x = alone(BATS + "1", 1);
        due("from bats with 1", x.step(0, RIGHT), 0);
        refused("from bats to bats with 2", STATE, () -> alone(BATS + "2", 1), y -> y.step(0, LEFT));
        LanternTongue z = alone(BATS + "9", 1);
        due("from bats to the same", z.step(0, LEFT), 1);
        due("burns 3, too", z.about(0, 1), 6);
    }

    @Edge(promise = 10, says = "of several the first as told by each call")
    static void noPartyIsToldBeforeAWrongWay() {
        refusedWith("step, way 2", UNKNOWN, Edges::busy, (x, p) -> x.step(p, 2), -1, 2, LOW, HIGH);
        refusedWith("step, way -1", UNKNOWN, Edges::busy, (x, p) -> x.step(p, -1), -1, 2, LOW, HIGH);
    }

    @Edge(promise = 10, says = "of several the first as told by each call")
    static void aWrongWayIsToldBeforeTooLittleOil() {
        Scene burnt = () -> {
            LanternTongue x = alone(BATS + "1", 0);
            x.step(0, LEFT);
            return x;
        };
        refusedWith("step without oil, way", OUTSIDE, burnt, (x, way) -> x.step(0, way), -1, 2, LOW, HIGH);
    }

    @Edge(promise = 10, says = "they change nothing")
    static void aRefusedStepIsNoStepSinceTheySpoke() {
        LanternTongue x = alone(BATS + "2", 0);
        x.speak(0);
        due("to bats with 2", x.step(0, RIGHT), STATE);
        due("to bats with 2", x.step(0, RIGHT), STATE);
        due("steps", x.about(0, 2), 0);
        due("since", x.about(0, 3), 0);
        due("look(0)", x.look(0), STATE);
    }

    @Edge(promise = 10, says = "From a SQUEEZE LEFT and RIGHT lead the other way about.")
    static void fromASqueezeTheyStepTheOtherWayAbout() {
        due("left", alone("s01,.11;1", 0).step(0, LEFT), 1);
        due("right", alone("s01,.11;1", 0).step(0, RIGHT), 0);
        due("to a squeeze it is as written", alone(".10,s10;1", 0).step(0, LEFT), 1);
    }

    // ---- 11 speak

    @Edge(promise = 11, says = "It SPEAKS: the SOUND. UNKNOWN.")
    static void party0IsTheFirstToSpeak() {
        due("speak(0)", busy().speak(0), 1);
        refusedWith("speak", UNKNOWN, Edges::busy, LanternTongue::speak, -1, LOW);
        refused("speak(0) of nobody", UNKNOWN, Edges::five, x -> x.speak(0));
    }

    @Edge(promise = 11, says = "It SPEAKS: the SOUND. UNKNOWN.")
    static void theLastThatCameIsTheLastToSpeak() {
        due("speak(1) of 2", busy().speak(1), 2);
        refusedWith("speak of 2", UNKNOWN, Edges::busy, LanternTongue::speak, 2, 3, HIGH);
        due("speak(2) of 3", full().speak(2), 2);
        refusedWith("speak of 3", UNKNOWN, Edges::full, LanternTongue::speak, 3, HIGH);
    }

    @Edge(promise = 11, says = "They SPEAK: they are told the SOUND.")
    static void theyMaySpeakWithoutOilAndAtAnyTime() {
        LanternTongue x = alone("d00,w11;1", 0);
        x.step(0, LEFT);
        due("without oil", x.speak(0), 1);
        due("again", x.speak(0), 1);
        due("no oil is burnt", x.about(0, 1), 0);
        due("it is no step", x.about(0, 2), 1);
    }

    @Edge(promise = 11, says = "The SOUND of a DRIP is 1, of a WELL 2, of others 0.")
    static void theSoundIsThatOfWhereTheyAre() {
        int[] sounds = {0, 1, 0, 0, 2};
        for (int c = 0; c < 5; c++) {
            due("at " + c, alone(FIVE, c).speak(0), sounds[c]);
        }
    }

    // ---- 12 look

    @Edge(promise = 12, says = "UNKNOWN; STATE: it may not.")
    static void party0IsTheFirstToLook() {
        told("look(0)", 0, () -> alone(FIVE, 0), x -> x.look(0));
        refusedWith("look", UNKNOWN, Edges::busy, LanternTongue::look, -1, LOW);
        refused("look(0) of nobody", UNKNOWN, Edges::five, x -> x.look(0));
    }

    @Edge(promise = 12, says = "UNKNOWN; STATE: it may not.")
    static void theLastThatCameIsTheLastToLook() {
        told("look(1) of 2", 1, () -> twoOf(FIVE), x -> x.look(1));
        refusedWith("look of 2", UNKNOWN, Edges::busy, LanternTongue::look, 2, 3, HIGH);
        told("look(2) of 3", 4, Edges::full, x -> x.look(2));
        refusedWith("look of 3", UNKNOWN, Edges::full, LanternTongue::look, 3, HIGH);
    }

    @Edge(promise = 12, says = "they may, if they have any OIL")
    static void anyOilIsEnoughToLook() {
        told("with 1", 1, () -> alone("d00,.11;1", 0), x -> x.look(0));
        Scene burnt = () -> {
            LanternTongue x = alone("d00,.11;1", 0);
            x.step(0, LEFT);
            return x;
        };
        refused("with 0", STATE, burnt, x -> x.look(0));
        LanternTongue y = burnt.made();
        y.fill(0);
        due("filled", y.look(0), 1);
    }

    @Edge(promise = 12, says = "(that is, if they never did, or made 2 STEPS since)")
    static void theyNeverSpoke() {
        LanternTongue x = alone("d01,w00;9", 0);
        due("by no step", x.look(0), 1);
        x.step(0, RIGHT);
        due("by one step", x.look(0), 4);
    }

    @Edge(promise = 12, says = "did not SPEAK since 2 STEPS ago")
    static void twoStepsSinceTheySpokeAreEnough() {
        for (int before = 0; before <= 3; before++) {
            int at = before;
            refused("by 0 steps behind " + at, STATE, () -> spoken(at, 0), x -> x.look(0));
            refused("by 1 step behind " + at, STATE, () -> spoken(at, 1), x -> x.look(0));
            told("by 2 steps behind " + at, 1, () -> spoken(at, 2), x -> x.look(0));
            told("by 3 steps behind " + at, 1, () -> spoken(at, 3), x -> x.look(0));
        }
    }

    @Edge(promise = 12, says = "did not SPEAK since 2 STEPS ago")
    static void whoSpeaksAgainMustStepAgain() {
        LanternTongue x = spoken(0, 1);
        x.speak(0);
        x.step(0, LEFT);
        due("by 1 step since the latest", x.look(0), STATE);
        x.step(0, LEFT);
        due("by 2 steps since the latest", x.look(0), 1);
    }

    @Edge(promise = 12, says = "they may, if they have any OIL, and did not SPEAK since 2 STEPS ago")
    static void neitherAloneIsEnough() {
        LanternTongue x = alone("d00,.11;2", 0);
        x.speak(0);
        x.step(0, LEFT);
        x.step(0, LEFT);
        due("2 steps since, no oil", x.look(0), STATE);
        x.fill(0);
        due("2 steps since, filled", x.look(0), 1);
        x.speak(0);
        x.fill(0);
        due("filled, spoke just now", x.look(0), STATE);
    }

    @Edge(promise = 12, says = "did not SPEAK since 2 STEPS ago")
    static void whatAnotherPartySaysDoesNotMatter() {
        LanternTongue x = twoOf(FIVE);
        x.speak(0);
        due("the other", x.look(1), 1);
        due("itself", x.look(0), STATE);
        x.step(1, LEFT);
        x.step(1, LEFT);
        due("steps of the other", x.look(0), STATE);
    }

    // ---- 13 fill

    @Edge(promise = 13, says = "It FILLS: how much OIL it had. UNKNOWN.")
    static void party0IsTheFirstToFill() {
        due("fill(0)", busy().fill(0), 4);
        refusedWith("fill", UNKNOWN, Edges::busy, LanternTongue::fill, -1, LOW);
        refused("fill(0) of nobody", UNKNOWN, Edges::five, x -> x.fill(0));
    }

    @Edge(promise = 13, says = "It FILLS: how much OIL it had. UNKNOWN.")
    static void theLastThatCameIsTheLastToFill() {
        due("fill(1) of 2", busy().fill(1), 1);
        refusedWith("fill of 2", UNKNOWN, Edges::busy, LanternTongue::fill, 2, 3, HIGH);
        due("fill(2) of 3", full().fill(2), 5);
        refusedWith("fill of 3", UNKNOWN, Edges::full, LanternTongue::fill, 3, HIGH);
    }

    @Edge(promise = 13, says = "They FILL: they have as much OIL as at first.")
    static void whoHasNoneAndWhoHasAllMayFill() {
        LanternTongue x = alone(BATS + "1", 0);
        told("all", 1, () -> alone(BATS + "1", 0), y -> y.fill(0));
        x.step(0, LEFT);
        due("none", x.fill(0), 0);
        due("then", x.about(0, 1), 1);
        due("no more than at first", x.fill(0), 1);
        due("then", x.about(0, 1), 1);
    }

    @Edge(promise = 13, says = "They FILL: they have as much OIL as at first.")
    static void onlyItsOilIsAnother() {
        LanternTongue x = busy();
        x.fill(1);
        int[] then = {4, 5, 2, 1, 0};
        for (int what = 0; what <= 4; what++) {
            due("about(1, " + what + ")", x.about(1, what), then[what]);
        }
        due("the other's oil", x.about(0, 1), 4);
    }

    public static void main(String[] args) throws Exception {
        run(PartyEdgesTest.class, 8, 13);
    }
}
