import java.math.BigInteger;

/** The edges of promises 18 to 22: what the lost ones heard, where they can be, walks by a seed. */
public final class LostEdgesTest extends Edges {
    /** In FIVE, so much was heard, all of it true for one who began at 0 and went left each time. */
    private static LanternTongue heard(int much) {
        int[] sounds = {0, 1, 0, 2};
        LanternTongue x = five();
        for (int n = 0; n < much; n++) {
            due("hear " + (n + 1), x.hear(n == 0 ? NONE : LEFT, sounds[n % 4]), n + 1);
        }
        return x;
    }

    // ---- 18 hear

    @Edge(promise = 18, says = "OUTSIDE: way (NONE at first, then 0, 1)")
    static void atFirstTheWayIsNone() {
        due("hear(NONE, 0)", five().hear(NONE, 0), 1);
        refusedWith("hear at first, way", OUTSIDE, Edges::five, (x, way) -> x.hear(way, 0), 0, 1, 2, HIGH);
        refusedWith("hear at first, way", OUTSIDE, Edges::five, (x, way) -> x.hear(way, 0), -2, LOW);
    }

    @Edge(promise = 18, says = "OUTSIDE: way (NONE at first, then 0, 1)")
    static void thenTheWayIs0AtLeast() {
        due("hear(0, 1)", heard(1).hear(0, 1), 2);
        refusedWith("hear then, way", OUTSIDE, () -> heard(1), (x, way) -> x.hear(way, 1), NONE, -2, LOW);
        refusedWith("hear then, way", OUTSIDE, Edges::busy, (x, way) -> x.hear(way, 1), NONE, -2, LOW);
    }

    @Edge(promise = 18, says = "OUTSIDE: way (NONE at first, then 0, 1)")
    static void thenTheWayIs1AtMost() {
        due("hear(1, 1)", heard(1).hear(1, 1), 2);
        refusedWith("hear then, way", OUTSIDE, () -> heard(1), (x, way) -> x.hear(way, 1), 2, HIGH);
        refusedWith("hear then, way", OUTSIDE, Edges::busy, (x, way) -> x.hear(way, 1), 2, HIGH);
    }

    @Edge(promise = 18, says = "sound (0 to 2)")
    static void theLeastSoundIs0() {
        due("hear(NONE, 0)", five().hear(NONE, 0), 1);
        refusedWith("hear at first, sound", OUTSIDE, Edges::five, (x, sound) -> x.hear(NONE, sound), -1, LOW);
        due("hear(0, 0)", heard(1).hear(LEFT, 0), 2);
        refusedWith("hear then, sound", OUTSIDE, Edges::busy, (x, sound) -> x.hear(LEFT, sound), -1, LOW);
    }

    @Edge(promise = 18, says = "sound (0 to 2)")
    static void theGreatestSoundIs2() {
        due("hear(NONE, 2)", five().hear(NONE, 2), 1);
        refusedWith("hear at first, sound", OUTSIDE, Edges::five, (x, sound) -> x.hear(NONE, sound), 3, HIGH);
        due("hear(0, 2)", heard(1).hear(LEFT, 2), 2);
        refusedWith("hear then, sound", OUTSIDE, Edges::busy, (x, sound) -> x.hear(RIGHT, sound), 3, HIGH);
    }

    @Edge(promise = 18, says = "tell what they HEARD (8 at most)")
    static void theEighthIsTheLast() {
        due("the eighth", heard(7).hear(LEFT, 0), 8);
        refused("a ninth, left", FULL, () -> heard(8), x -> x.hear(LEFT, 0));
        refused("a ninth, right", FULL, () -> heard(8), x -> x.hear(RIGHT, 2));
        refused("a ninth", FULL, Edges::full, x -> x.hear(RIGHT, 2));
    }

    @Edge(promise = 18, says = "sound (0 to 2); FULL.")
    static void aWrongNinthIsOutside() {
        refusedWith("a ninth, way", OUTSIDE, Edges::full, (x, way) -> x.hear(way, 0), NONE, 2, LOW, HIGH);
        refusedWith("a ninth, sound", OUTSIDE, Edges::full, (x, sound) -> x.hear(LEFT, sound), -1, 3, LOW, HIGH);
    }

    @Edge(promise = 18, says = "OUTSIDE: way (NONE at first, then 0, 1), sound (0 to 2); FULL.")
    static void withoutAMineTheyMayTellToo() {
        LanternTongue x = fresh();
        due("at first", x.hear(NONE, 0), 1);
        for (int n = 2; n <= 8; n++) {
            due("hear " + n, x.hear(RIGHT, 2), n);
        }
        due("a ninth", x.hear(RIGHT, 2), FULL);
        refused("a way at first", OUTSIDE, Edges::fresh, y -> y.hear(LEFT, 0));
    }

    @Edge(promise = 18, says = "OUTSIDE: way (NONE at first, then 0, 1)")
    static void itIsAtFirstAgainWhenNothingIsHeard() {
        LanternTongue x = heard(3);
        x.forget();
        due("a way behind forget()", x.hear(LEFT, 0), OUTSIDE);
        due("none behind forget()", x.hear(NONE, 0), 1);
        LanternTongue y = five();
        y.image();
        y.hear(NONE, 0);
        y.restore();
        due("a way behind restore()", y.hear(LEFT, 0), OUTSIDE);
        due("none behind restore()", y.hear(NONE, 0), 1);
        LanternTongue z = heard(3);
        write(z, LEAST);
        z.mine();
        due("a way behind mine()", z.hear(LEFT, 0), OUTSIDE);
        due("none behind mine()", z.hear(NONE, 0), 1);
    }

    // ---- 19 forget

    @Edge(promise = 19, says = "Nothing was told: how much was.")
    static void nothingWasHeardToForget() {
        told("forget()", 0, Edges::fresh, x -> x.forget());
        told("forget()", 0, Edges::five, x -> x.forget());
    }

    @Edge(promise = 19, says = "Nothing was told: how much was.")
    static void oneAndEightAreForgotten() {
        LanternTongue x = heard(1);
        due("one", x.forget(), 1);
        same("behind it", x, five());
        LanternTongue y = heard(8);
        due("eight", y.forget(), 8);
        due("again", y.forget(), 0);
        same("behind it", y, five());
        LanternTongue z = heard(8);
        z.forget();
        due("there is room", z.hear(NONE, 2), 1);
        due("by that alone", z.where(), 16);
    }

    // ---- 20 where

    @Edge(promise = 20, says = "STATE: no MINE.")
    static void withoutAMineTheyAreNotAnywhere() {
        refused("where()", STATE, Edges::fresh, x -> x.where());
        refused("where(), with something heard", STATE, () -> {
            LanternTongue x = written(LEAST);
            x.hear(NONE, 0);
            return x;
        }, x -> x.where());
    }

    @Edge(promise = 20, says = "at which CROSSINGS they can be now: as bits")
    static void whoHeardNothingCanBeAtAll() {
        told("of 2", 3, () -> mined(LEAST), x -> x.where());
        told("of 5", 31, Edges::five, x -> x.where());
        told("of 6", 63, () -> mined(MOST), x -> x.where());
    }

    @Edge(promise = 20, says = "at first the SOUND where they are, then each time which STEP they made, and the SOUND there")
    static void theFirstIsWhereTheyAreAndNoStep() {
        int[] places = {13, 2, 16};
        for (int sound = 0; sound <= 2; sound++) {
            LanternTongue x = five();
            x.hear(NONE, sound);
            due("by " + sound, x.where(), places[sound]);
        }
    }

    @Edge(promise = 20, says = "at which CROSSINGS they can be now: as bits")
    static void theyCanBeNowhere() {
        LanternTongue x = mined(LEAST);
        x.hear(NONE, 1);
        told("no such sound", 0, () -> {
            LanternTongue y = mined(LEAST);
            y.hear(NONE, 1);
            return y;
        }, y -> y.where());
        due("hear more", x.hear(LEFT, 0), 2);
        due("nowhere still", x.where(), 0);
    }

    @Edge(promise = 20, says = "tell what they HEARD (8 at most)")
    static void allEightCount() {
        // Left by left from 0: 1, 2, 4 and 0 again; from 3 it is 4, which sounds otherwise.
        int[] places = {13, 2, 4, 16, 1, 2, 4, 16};
        for (int much = 1; much <= 8; much++) {
            due("by " + much, heard(much).where(), places[much - 1]);
        }
        LanternTongue x = heard(7);
        x.hear(LEFT, 1);
        due("by an eighth that cannot be", x.where(), 0);
    }

    @Edge(promise = 20, says = "From a SQUEEZE LEFT and RIGHT lead the other way about.")
    static void theLostStepTheOtherWayAboutToo() {
        LanternTongue x = mined("s01,d11;1");
        x.hear(NONE, 0);
        x.hear(LEFT, 1);
        due("left of the squeeze", x.where(), 2);
        LanternTongue y = mined("s01,d11;1");
        y.hear(NONE, 0);
        y.hear(RIGHT, 0);
        due("right of the squeeze", y.where(), 1);
    }

    // ---- 21 next

    @Edge(promise = 21, says = "STATE: no MINE.")
    static void withoutAMineThereIsNoNext() {
        refused("next()", STATE, Edges::fresh, x -> x.next());
        refused("next(), with something heard", STATE, () -> {
            LanternTongue x = written(LEAST);
            x.hear(NONE, 0);
            return x;
        }, x -> x.next());
    }

    @Edge(promise = 21, says = "none, if they can be nowhere")
    static void fromNowhereThereIsNoNext() {
        told("next()", NONE, () -> {
            LanternTongue x = mined(LEAST);
            x.hear(NONE, 1);
            return x;
        }, x -> x.next());
    }

    @Edge(promise = 21, says = "of like ones LEFT")
    static void ofLikeOnesItIsLeft() {
        told("both leave two", LEFT, () -> mined(".01,.10;1"), x -> x.next());
        told("both leave one", LEFT, () -> mined(".00,.11;1"), x -> x.next());
        LanternTongue x = mined(".01,d11;1");
        x.hear(NONE, 1);
        due("they are at one place", x.next(), LEFT);
    }

    @Edge(promise = 21, says = "so that fewest CROSSINGS are left at worst, whatever SOUND is HEARD")
    static void oneLessAtWorstIsEnough() {
        due("right leaves one, left two", mined(".01,.11;1").next(), RIGHT);
        due("left leaves one, right two", mined(".00,.01;1").next(), LEFT);
        // Left: 0, 1, 2 of no sound; right: 0, 1 of no sound, 3 a drip.
        due("by the sounds", mined(".00,.11,.23,d23;1").next(), RIGHT);
    }

    @Edge(promise = 21, says = "so that fewest CROSSINGS are left at worst, whatever SOUND is HEARD")
    static void theWorstSoundCountsAndEachCrossingOnce() {
        // Left: 0 and 1 of no sound; right: 0 of no sound, 3, 4, 5 drips.
        due("the worst is of a drip", mined(".00,.00,.13,d04,d05,d03;1").next(), LEFT);
        // Left: all come to 0; right: 0 and 2.
        due("all who come to one are one", mined(".00,.00,d02,d02;1").next(), LEFT);
    }

    @Edge(promise = 21, says = "tell what they HEARD (8 at most)")
    static void withAllEightHeardThereIsANextStill() {
        due("where()", heard(8).where(), 16);
        due("next()", heard(8).next(), LEFT);
    }

    // ---- 22 walks

    private static final BigInteger TIMES = BigInteger.valueOf(1103515245);
    private static final BigInteger AND = BigInteger.valueOf(12345);
    private static final BigInteger REST = BigInteger.TWO.pow(31);

    private static int seedThen(int seed, int steps) {
        BigInteger s = BigInteger.valueOf(seed);
        for (int n = 0; n < steps; n++) {
            s = s.multiply(TIMES).add(AND).mod(REST);
        }
        return s.intValueExact();
    }

    @Edge(promise = 22, says = "UNKNOWN: from; OUTSIDE: steps (1 to 60), seed (0 at least), what.")
    static void crossing0IsTheFirstToWalkFrom() {
        told("walks(0, ..)", 12345, Edges::busy, x -> x.walks(0, 1, 0, 3));
        refusedWith("walks, from", UNKNOWN, Edges::busy, (x, from) -> x.walks(from, 1, 0, 3), -1, LOW);
    }

    @Edge(promise = 22, says = "UNKNOWN: from; OUTSIDE: steps (1 to 60), seed (0 at least), what.")
    static void theLastCrossingIsTheLastToWalkFrom() {
        told("walks(4, ..) of 5", 12345, Edges::busy, x -> x.walks(4, 1, 0, 3));
        refusedWith("walks of 5, from", UNKNOWN, Edges::busy, (x, from) -> x.walks(from, 1, 0, 3), 5, 6, HIGH);
        due("walks(5, ..) of 6", mined(MOST).walks(5, 1, 0, 3), 12345);
        refusedWith("walks of 6, from", UNKNOWN, () -> mined(MOST), (x, from) -> x.walks(from, 1, 0, 3), 6, HIGH);
        due("walks(1, ..) of 2", mined(LEAST).walks(1, 1, 0, 3), 12345);
        refused("walks(2, ..) of 2", UNKNOWN, () -> mined(LEAST), x -> x.walks(2, 1, 0, 3));
    }

    @Edge(promise = 22, says = "OUTSIDE: steps (1 to 60)")
    static void oneStepIsTheFewest() {
        told("1 step", seedThen(7, 1), Edges::busy, x -> x.walks(0, 1, 7, 3));
        for (int what = 0; what <= 3; what++) {
            int told = what;
            refusedWith("walks, steps", OUTSIDE, Edges::busy, (x, steps) -> x.walks(0, steps, 7, told), 0, -1, LOW);
        }
    }

    @Edge(promise = 22, says = "OUTSIDE: steps (1 to 60)")
    static void sixtyStepsAreTheMost() {
        told("60 steps", seedThen(7, 60), Edges::busy, x -> x.walks(0, 60, 7, 3));
        for (int what = 0; what <= 3; what++) {
            int told = what;
            refusedWith("walks, steps", OUTSIDE, Edges::busy, (x, steps) -> x.walks(0, steps, 7, told), 61, HIGH);
        }
    }

    @Edge(promise = 22, says = "seed (0 at least)")
    static void theLeastSeedIs0() {
        due("seed 0", five().walks(0, 1, 0, 3), 12345);
        refusedWith("walks, seed", OUTSIDE, Edges::busy, (x, seed) -> x.walks(0, 1, seed, 3), -1, LOW);
    }

    @Edge(promise = 22, says = "its rest by 2 to the 31")
    static void theGreatestSeedWrapsLikeAnyOther() {
        due("the seed behind the greatest", five().walks(0, 1, HIGH, 3), seedThen(HIGH, 1));
        for (int seed : new int[] {0, 1, 2, 65535, 65536, 1 << 30, HIGH - 1, HIGH}) {
            for (int steps : new int[] {1, 2, 3, 59, 60}) {
                due("the seed of " + seed + " by " + steps, five().walks(0, steps, seed, 3), seedThen(seed, steps));
            }
        }
    }

    @Edge(promise = 22, says = "its rest by 2 to the 31")
    static void aSeedMayComeToBeJustBelowTheRest() {
        // The seed whose next one is the greatest there is, found by dividing in the rests by 2 to the 31.
        int before = BigInteger.valueOf(HIGH).subtract(AND).multiply(TIMES.modInverse(REST)).mod(REST).intValueExact();
        due("the greatest", five().walks(0, 1, before, 3), HIGH);
        int beforeZero = BigInteger.ZERO.subtract(AND).multiply(TIMES.modInverse(REST)).mod(REST).intValueExact();
        due("the least", five().walks(0, 1, beforeZero, 3), 0);
    }

    @Edge(promise = 22, says = "then that by 65536 (rounded down), its rest")
    static void theDrawIsOfTheSeedThatIsNext() {
        // LEFT leads to 0, RIGHT to 1 from either, so where it ends tells the last draw.
        LanternTongue x = mined(".01,.01;1");
        for (int seed : new int[] {0, 1, 2, 3, 1000, 65536, HIGH}) {
            for (int steps = 1; steps <= 5; steps++) {
                due("seed " + seed + " by " + steps, x.walks(0, steps, seed, 1), seedThen(seed, steps) / 65536 % 2);
            }
        }
    }

    @Edge(promise = 22, says = "WALKS: what = 0 how many CROSSINGS, 1 where it ends, 2 the SOUNDS, 3 the SEED then.")
    static void walksOfWhat0To3() {
        due("what 0", mined(".00,.11;1").walks(1, 60, 0, 0), 1);
        refusedWith("walks, what", OUTSIDE, Edges::busy, (x, what) -> x.walks(0, 1, 0, what), -1, LOW);
        due("what 3", mined(".00,.11;1").walks(1, 1, 0, 3), 12345);
        refusedWith("walks, what", OUTSIDE, Edges::busy, (x, what) -> x.walks(0, 1, 0, what), 4, HIGH);
    }

    @Edge(promise = 22, says = "of several the first as told by each call")
    static void noCrossingIsToldBeforeAllElseOfAWalk() {
        refusedWith("walks, from, steps 0", UNKNOWN, Edges::busy, (x, c) -> x.walks(c, 0, 0, 0), -1, 5, LOW, HIGH);
        refusedWith("walks, from, steps 61", UNKNOWN, Edges::busy, (x, c) -> x.walks(c, 61, 0, 0), -1, 5, LOW, HIGH);
        refusedWith("walks, from, seed -1", UNKNOWN, Edges::busy, (x, c) -> x.walks(c, 1, -1, 0), -1, 5, LOW, HIGH);
        refusedWith("walks, from, what 4", UNKNOWN, Edges::busy, (x, c) -> x.walks(c, 1, 0, 4), -1, 5, LOW, HIGH);
        refusedWith("walks, all", UNKNOWN, Edges::busy, (x, c) -> x.walks(c, 0, -1, 4), -1, 5, LOW, HIGH);
        refused("walks without a mine", UNKNOWN, Edges::fresh, x -> x.walks(0, 61, -1, 4));
    }

    @Edge(promise = 22, says = "how many CROSSINGS were come to (it is itself at first)")
    static void whereItBeginsIsComeToAtFirst() {
        due("it never leaves", mined(".00,.11;1").walks(0, 60, 5, 0), 1);
        due("it leaves for good", mined(".11,.11;1").walks(0, 1, 5, 0), 2);
        due("it comes to all", mined(".11,.22,.33,.44,.55,.00;1").walks(0, 5, 5, 0), 6);
        due("it comes to all but one", mined(".11,.22,.33,.44,.55,.00;1").walks(0, 4, 5, 0), 5);
    }

    @Edge(promise = 22, says = "the SOUNDS together (of those that are come to)")
    static void theSoundsAreOfEachTimeOneIsComeTo() {
        due("the most", mined("w00,.11;1").walks(0, 60, 5, 2), 120);
        due("once", mined("w00,.11;1").walks(0, 1, 5, 2), 2);
        due("not where it begins", mined("w11,.11;1").walks(0, 60, 5, 2), 0);
        due("there again", mined("w11,d00;1").walks(0, 2, 5, 2), 3);
        due("none", mined(".00,.11;1").walks(0, 60, 5, 2), 0);
    }

    @Edge(promise = 22, says = "as they would be: one from a CROSSING, without OIL")
    static void aWalkNeedsNoOilAndLeavesAllAsItIs() {
        told("sixty to bats with 1 oil at first", 1, () -> peopled("b00,.11;1", 0), x -> x.walks(0, 60, 5, 0));
        for (int what = 0; what <= 2; what++) {
            int asked = what;
            long answer = busy().walks(3, 60, HIGH, asked);
            told("of busy, what " + asked, answer, Edges::busy, x -> x.walks(3, 60, HIGH, asked));
        }
    }

    public static void main(String[] args) throws Exception {
        run(LostEdgesTest.class, 18, 22);
    }
}
