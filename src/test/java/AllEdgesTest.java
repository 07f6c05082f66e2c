import java.math.BigInteger;
import java.util.ArrayList;
import java.util.List;

/** The edges of promises 23 to 26: the image, what is counted, the digest; and of all calls alike. */
public final class AllEdgesTest extends Edges {
    // ---- 23 image

    @Edge(promise = 23, says = "An IMAGE is kept (one; the latest): how many PARTIES. STATE: no MINE.")
    static void withoutAMineNoImageIsKept() {
        refused("image()", STATE, Edges::fresh, x -> x.image());
        Scene onThePage = () -> {
            LanternTongue x = written(LEAST);
            x.hear(NONE, 0);
            return x;
        };
        refused("image() of what is heard and on the page", STATE, onThePage, x -> x.image());
        LanternTongue x = onThePage.made();
        x.image();
        due("restore()", x.restore(), STATE);
        x.mine();
        due("restore() behind the mine", x.restore(), STATE);
    }

    @Edge(promise = 23, says = "how many PARTIES. STATE: no MINE.")
    static void anImageOfNobodyAndOfAll() {
        due("of nobody", five().image(), 0);
        due("of one", peopled(FIVE, 0).image(), 1);
        due("of all three", peopled(FIVE, 0, 1, 2).image(), 3);
    }

    @Edge(promise = 23, says = "An IMAGE is kept (one; the latest)")
    static void onlyTheLatestIsKept() {
        LanternTongue x = five();
        x.image();
        x.party(0);
        x.image();
        x.party(1);
        x.party(2);
        due("restore()", x.restore(), 1);
        due("restore() again", x.restore(), 1);
        due("where the first is", x.about(0, 0), 0);
    }

    @Edge(promise = 23, says = "An IMAGE is kept (one; the latest)")
    static void toKeepOneChangesNothingElse() {
        LanternTongue x = full();
        x.image();
        LanternTongue y = full();
        due("the digest", x.digest(), y.digest());
        due("restore() of it", x.restore(), 3);
        due("the digest then", x.digest(), y.digest());
    }

    // ---- 24 restore

    @Edge(promise = 24, says = "STATE: none was kept")
    static void noneWasKept() {
        refused("restore()", STATE, Edges::fresh, x -> x.restore());
        refused("restore()", STATE, Edges::five, x -> x.restore());
        refused("restore()", STATE, () -> peopled(FIVE, 0, 1, 2), x -> x.restore());
    }

    @Edge(promise = 24, says = "STATE: none was kept, or there is another MINE since.")
    static void thereIsAnotherMineSince() {
        Scene since = () -> {
            LanternTongue x = busy();
            x.mine();
            x.party(1);
            x.hear(NONE, 0);
            return x;
        };
        refused("restore()", STATE, since, x -> x.restore());
        LanternTongue x = since.made();
        due("a new image", x.image(), 1);
        x.party(0);
        due("restore() of it", x.restore(), 1);
    }

    @Edge(promise = 24, says = "or there is another MINE since")
    static void theSameTextReadAgainIsAnotherMine() {
        refused("restore()", STATE, () -> {
            LanternTongue x = peopled(LEAST, 0);
            x.image();
            write(x, LEAST);
            due("mine()", x.mine(), 2);
            return x;
        }, x -> x.restore());
    }

    @Edge(promise = 24, says = "they change nothing")
    static void aRefusedMineIsNotAnotherOne() {
        LanternTongue x = busy();
        x.letter('x');
        due("mine()", x.mine(), STATE);
        due("restore()", x.restore(), 1);
        due("where it is", x.about(0, 0), 0);
    }

    @Edge(promise = 24, says = "(those that come since are gone by restore())")
    static void allThatCameSinceAreGone() {
        LanternTongue x = five();
        x.image();
        x.party(0);
        x.party(0);
        x.party(0);
        due("restore()", x.restore(), 0);
        due("the first", x.about(0, 0), UNKNOWN);
        due("none is there", x.crossing(0, 5), 0);
        for (int what = 2; what <= 5; what++) {
            due("count(" + what + ")", x.count(what), 0);
        }
        due("one that comes then is the first", x.party(0), 0);
    }

    @Edge(promise = 24, says = "(those that come since are gone by restore())")
    static void allThatWereStay() {
        LanternTongue x = peopled(FIVE, 0, 1, 2);
        x.image();
        x.step(2, LEFT);
        due("restore()", x.restore(), 3);
        due("the third", x.about(2, 0), 2);
        due("a fourth", x.party(0), FULL);
    }

    @Edge(promise = 24, says = "where they are, OIL, STEPS, when they SPOKE, what is HEARD.")
    static void eachThingThatAnImageKeepsComesBack() {
        LanternTongue x = peopled("d01,.10;2", 0, 1);
        x.speak(0);
        x.step(0, RIGHT);
        x.hear(NONE, 1);
        x.hear(RIGHT, 0);
        x.image();
        x.step(0, RIGHT);
        x.fill(0);
        x.step(0, RIGHT);
        x.speak(0);
        x.speak(1);
        x.step(1, LEFT);
        x.step(1, LEFT);
        x.forget();
        x.hear(NONE, 1);
        x.hear(LEFT, 1);
        x.hear(LEFT, 1);
        due("restore()", x.restore(), 2);
        int[][] about = {{1, 1, 1, 1, 0}, {1, 2, 0, NONE, 1}};
        for (int p = 0; p <= 1; p++) {
            for (int what = 0; what <= 4; what++) {
                due("about(" + p + ", " + what + ")", x.about(p, what), about[p][what]);
            }
        }
        due("how much was heard", x.count(6), 2);
        due("what was heard", x.where(), 2);
    }

    @Edge(promise = 24, says = "It goes on from the IMAGE")
    static void itGoesOnAndTheImageStays() {
        LanternTongue x = peopled(FIVE, 0);
        x.image();
        for (int time = 1; time <= 3; time++) {
            due("step " + time, x.step(0, LEFT), 1);
            due("restore " + time, x.restore(), 1);
            due("where it is", x.about(0, 0), 0);
            due("its oil", x.about(0, 1), 5);
        }
    }

    @Edge(promise = 24, says = "An IMAGE keeps how many PARTIES there are")
    static void thePageAndHowOftenAMineWasReadAreNotKept() {
        LanternTongue x = mined(LEAST);
        write(x, FIVE);
        x.mine();
        x.letter('.');
        x.image();
        x.letter('0');
        due("restore()", x.restore(), 0);
        due("letters", x.count(7), 2);
        due("how often", x.count(8), 2);
        x.blank();
        x.restore();
        due("letters behind blank()", x.count(7), 0);
    }

    // ---- 25 count

    @Edge(promise = 25, says = "How many: 0 CROSSINGS")
    static void countOfWhat0AtLeast() {
        told("count(0)", 5, Edges::busy, x -> x.count(0));
        refusedWith("count", OUTSIDE, Edges::busy, LanternTongue::count, -1, LOW);
        refusedWith("count without a mine", OUTSIDE, Edges::fresh, LanternTongue::count, -1, LOW);
    }

    @Edge(promise = 25, says = "8 how often a MINE was read. OUTSIDE.")
    static void countOfWhat8AtMost() {
        told("count(8)", 1, Edges::busy, x -> x.count(8));
        refusedWith("count", OUTSIDE, Edges::busy, LanternTongue::count, 9, HIGH);
        refusedWith("count without a mine", OUTSIDE, Edges::fresh, LanternTongue::count, 9, HIGH);
    }

    @Edge(promise = 25, says = "1 OIL at first (0: no MINE)")
    static void withoutAMineThereIsNoOil() {
        told("count(1)", 0, Edges::fresh, x -> x.count(1));
        told("count(1), one on the page", 0, () -> written(LEAST), x -> x.count(1));
        told("count(1) of the least", 1, () -> mined(LEAST), x -> x.count(1));
        told("count(1) of the most", 9, () -> mined(MOST), x -> x.count(1));
    }

    @Edge(promise = 25, says = "1 OIL at first")
    static void oilAtFirstIsNotWhatIsLeft() {
        LanternTongue x = peopled(LEAST, 0);
        x.step(0, LEFT);
        due("count(1)", x.count(1), 1);
        due("count(3)", x.count(3), 0);
    }

    @Edge(promise = 25, says = "2 PARTIES, 3 OIL that all have, 4 STEPS of all, 5 that may LOOK")
    static void ofNobodyAllAreNone() {
        for (int what = 2; what <= 6; what++) {
            due("count(" + what + ")", five().count(what), 0);
        }
    }

    @Edge(promise = 25, says = "2 PARTIES, 3 OIL that all have, 4 STEPS of all, 5 that may LOOK")
    static void theMostThatAllHave() {
        LanternTongue x = peopled(MOST, 0, 0, 5);
        int[] most = {6, 9, 3, 27, 0, 3};
        for (int what = 0; what <= 5; what++) {
            due("count(" + what + ")", x.count(what), most[what]);
        }
    }

    @Edge(promise = 25, says = "5 that may LOOK")
    static void whoMayNotLookIsNotCounted() {
        LanternTongue x = peopled(".00,.11;2", 0, 0, 0);
        x.speak(0);
        due("one spoke", x.count(5), 2);
        x.step(1, LEFT);
        x.step(1, LEFT);
        due("one has no oil", x.count(5), 1);
        x.step(0, LEFT);
        x.fill(0);
        due("one step since", x.count(5), 1);
        x.step(0, LEFT);
        due("two steps since", x.count(5), 2);
        due("steps of all", x.count(4), 4);
        due("oil that all have", x.count(3), 3);
    }

    @Edge(promise = 25, says = "6 what was HEARD, 7 letters of THE PAGE")
    static void theMostHeardAndTheMostLetters() {
        due("heard", full().count(6), 8);
        due("letters", full().count(7), 28);
    }

    @Edge(promise = 25, says = "An object is used for at most 512 calls after it has been made")
    static void theStepsOfAWholeLife() {
        // 10 calls to read the mine, 1 for the party, 50 times 9 steps and a fill, and count() is the 512th.
        LanternTongue x = peopled(".00,.11;9", 0);
        for (int time = 1; time <= 50; time++) {
            for (int n = 1; n <= 9; n++) {
                due("step " + n + " of time " + time, x.step(0, LEFT), 0);
            }
            due("fill " + time, x.fill(0), 0);
        }
        due("count(4)", x.count(4), 450);
    }

    @Edge(promise = 25, says = "8 how often a MINE was read")
    static void asOftenAsAnObjectsLifeAllows() {
        LanternTongue x = fresh();
        // 10 calls a time: 51 times are 510 of the 512 calls.
        for (int times = 1; times <= 51; times++) {
            write(x, LEAST);
            x.mine();
        }
        due("count(8)", x.count(8), 51);
    }

    @Edge(promise = 25, says = "8 how often a MINE was read")
    static void aRefusedMineWasNotRead() {
        LanternTongue x = mined(LEAST);
        x.mine();
        write(x, ".01;1");
        x.mine();
        due("count(8)", x.count(8), 1);
    }

    // ---- 26 digest

    /** The digest by the calls that it is told of, in numbers without an end, wrapped only then. */
    private static long digestBy(LanternTongue x, String page) {
        List<Integer> numbers = new ArrayList<>();
        int crossings = x.count(0);
        for (int c = 0; c < crossings; c++) {
            for (int what = 0; what <= 5; what++) numbers.add(x.crossing(c, what));
            for (int what = 0; what <= 1; what++) numbers.add(x.round(c, what));
            for (int to = 0; to < crossings; to++) {
                for (int what = 0; what <= 2; what++) numbers.add(x.way(c, to, what));
                for (int what = 0; what <= 1; what++) numbers.add(x.apart(c, to, what));
            }
        }
        int parties = x.count(2);
        for (int p = 0; p < parties; p++) {
            for (int what = 0; what <= 4; what++) numbers.add(x.about(p, what));
            for (int q = 0; q < parties; q++) numbers.add(x.meet(p, q));
        }
        if (crossings > 0) {
            numbers.add(x.where());
            numbers.add(x.next());
        }
        for (char sign : page.toCharArray()) numbers.add((int) sign);
        for (int what = 0; what <= 8; what++) numbers.add(x.count(what));
        BigInteger h = BigInteger.valueOf(977);
        for (int number : numbers) h = h.multiply(BigInteger.valueOf(31)).add(BigInteger.valueOf(number));
        return h.longValue();
    }

    private static void digestIs(String what, LanternTongue x, String page) {
        long got = x.digest();
        due("the digest of " + what, got, digestBy(x, page));
    }

    @Edge(promise = 26, says = "h is 977, then for each of these numbers, in order, 31 times h, and it")
    static void theDigestOfANewObject() {
        // Nine numbers, all 0, and no more: 977 times 31 to the 9, which a long holds.
        due("digest()", fresh().digest(), BigInteger.valueOf(31).pow(9).multiply(BigInteger.valueOf(977)).longValueExact());
    }

    @Edge(promise = 26, says = "(as longs, wrapping)")
    static void theDigestWraps() {
        LanternTongue x = fresh();
        // Three letters and nine counts: 977 times 31 to the 12 is above what a long holds.
        write(x, "~~~");
        due("digest()", x.digest(), digestBy(x, "~~~"));
        BigInteger h = BigInteger.valueOf(977).multiply(BigInteger.valueOf(31).pow(12));
        due("it is above", h.bitLength() > 63 ? 1 : 0, 1);
        digestIs("a full page", full(), LEAST + "...................");
    }

    @Edge(promise = 26, says = "with a MINE WHERE, NEXT")
    static void withoutAMineNeitherIsIn() {
        LanternTongue x = written(LEAST);
        x.hear(NONE, 0);
        digestIs("no mine", x, LEAST);
        digestIs("the least", mined(LEAST), "");
    }

    @Edge(promise = 26, says = "of each CROSSING what crossing() tells for 0 to 5, what round() tells for 0 and 1")
    static void theDigestOfTheGreatest() {
        digestIs("the most", peopled(MOST, 5, 3, 3), "");
    }

    @Edge(promise = 26, says = "as longs, wrapping")
    static void numbersBelow0CountAsTheyAre() {
        LanternTongue x = peopled(".00,.11;1", 0, 1);
        x.hear(NONE, 2);
        digestIs("where hardly anything is", x, "");
    }

    @Edge(promise = 26, says = "letters of THE PAGE; what count() tells for 0 to 8.")
    static void theLettersAreInTheirOrder() {
        due("the order tells", written("12").digest() == written("21").digest() ? 1 : 0, 0);
        digestIs("the least and the greatest letter", written("\001~"), "\001~");
        LanternTongue x = written("xyz");
        x.blank();
        due("none is left behind blank()", x.digest(), fresh().digest());
    }

    @Edge(promise = 26, says = "what count() tells for 0 to 8")
    static void theDigestChangesNothing() {
        told("digest() of busy", busy().digest(), Edges::busy, x -> x.digest());
        told("digest() of full", full().digest(), Edges::full, x -> x.digest());
    }

    public static void main(String[] args) throws Exception {
        run(AllEdgesTest.class, 23, 26);
    }
}
