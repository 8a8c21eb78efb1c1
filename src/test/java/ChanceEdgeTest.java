/** The boundary cases of the goat and of years: promises 25 and 26, sentence by sentence. */
public final class ChanceEdgeTest {
    private static final int OUTSIDE = -2;
    private static final long GONE_OUTSIDE = -1000000000000000002L;

    public static void main(String[] args) {
        goatRanges();
        goneAndTheRefusal();
        noStep();
        lowestTerms();
        sixSteps();
        whereTheLandEnds();
        inACorner();
        asItIsNow();
        yearRanges();
        leftOver();
        theDayEnds();
        manyActs();
        ifThatCanBe();
        stepsByReach();
        pinchedOrNot();
        nobodyWalks();
        nothingIsDone();
        Check.end("ChanceEdgeTest");
    }

    private static void dueGoat(StandingLine line, int x, int y, int k, int side, long upper, long lower) {
        Check.due("goat(" + x + ", " + y + ", " + k + ", " + side + ", 0)", line.goat(x, y, k, side, 0), upper);
        Check.due("goat(" + x + ", " + y + ", " + k + ", " + side + ", 1)", line.goat(x, y, k, side, 1), lower);
    }

    private static void goatRanges() {
        Check.sentence("GOAT: .. k steps (0 to 6) .. OUTSIDE.");
        Check.range("goat x", 0, 40, GONE_OUTSIDE, x -> new StandingLine().goat(x, 7, 1, 0, 0));
        Check.range("goat y", 0, 40, GONE_OUTSIDE, y -> new StandingLine().goat(7, y, 1, 0, 0));
        Check.range("goat k", 0, 6, GONE_OUTSIDE, k -> new StandingLine().goat(7, 7, k, 0, 0));
        Check.range("goat side", 0, 2, GONE_OUTSIDE, side -> new StandingLine().goat(7, 7, 1, side, 0));
        Check.range("goat part", 0, 1, GONE_OUTSIDE, part -> new StandingLine().goat(7, 7, 1, 0, part));
    }

    private static void goneAndTheRefusal() {
        Check.sentence("What is told of fractions that are refused: GONE and the refusal.");
        for (int part = 0; part <= 1; part++) {
            Check.due("part " + part, new StandingLine().goat(41, 0, 0, 0, part),
                StandingLine.GONE + StandingLine.OUTSIDE);
        }
    }

    private static void noStep() {
        Check.sentence("it strays from a point, k steps (0)");
        StandingLine x = new StandingLine();
        int[] heights = {21, 19, 20};
        for (int at = 0; at <= 2; at++) {
            for (int side = 0; side <= 2; side++) {
                dueGoat(x, 5, heights[at], 0, side, at == side ? 1 : 0, 1);
            }
        }
        dueGoat(x, 20, 20, 6, 2, 231, 1024);
        dueGoat(x, 20, 20, 0, 2, 1, 1);
        dueGoat(x, 20, 20, 0, 0, 0, 1);
        dueGoat(x, 20, 20, 0, 1, 0, 1);
    }

    private static void lowestTerms() {
        Check.sentence("Fractions are told in lowest terms by part: 0 the upper, 1 the lower number");
        StandingLine x = new StandingLine();
        dueGoat(x, 20, 0, 6, 0, 0, 1);
        dueGoat(x, 20, 0, 6, 2, 0, 1);
        dueGoat(x, 20, 0, 6, 1, 1, 1);
        dueGoat(x, 20, 20, 1, 2, 1, 2);
        dueGoat(x, 20, 20, 1, 0, 1, 4);
        dueGoat(x, 20, 20, 2, 2, 3, 8);
        dueGoat(x, 20, 20, 2, 1, 5, 16);
    }

    private static void sixSteps() {
        Check.sentence("k steps (6), each to the north, east, south, west with a fourth");
        StandingLine x = Scene.ends(26, 26);
        dueGoat(x, 20, 20, 6, 2, 1, 4096);
        dueGoat(x, 20, 20, 6, 1, 4095, 4096);
        dueGoat(x, 20, 20, 6, 0, 0, 1);
        dueGoat(x, 20, 20, 5, 1, 1, 1);
        StandingLine below = Scene.ends(14, 14);
        dueGoat(below, 20, 20, 6, 2, 1, 4096);
        dueGoat(new StandingLine(), 20, 20, 6, 2, 231, 1024);
        dueGoat(new StandingLine(), 20, 20, 6, 0, 793, 2048);
    }

    private static void whereTheLandEnds() {
        Check.sentence("(where the LAND ends it stays)");
        dueGoat(Scene.ends(0, 0), 20, 0, 1, 2, 3, 4);
        dueGoat(Scene.ends(40, 40), 20, 40, 1, 2, 3, 4);
        dueGoat(straight(0), 0, 20, 1, 2, 3, 4);
        dueGoat(straight(40), 40, 20, 1, 2, 3, 4);
        dueGoat(straight(20), 20, 20, 1, 2, 1, 2);
        dueGoat(straight(1), 0, 20, 1, 2, 1, 4);
        dueGoat(straight(39), 40, 20, 1, 2, 1, 4);
        dueGoat(Scene.ends(1, 1), 20, 0, 1, 2, 1, 4);
        dueGoat(Scene.ends(39, 39), 20, 40, 1, 2, 1, 4);
        dueGoat(Scene.ends(0, 0), 20, 1, 1, 2, 1, 4);
        dueGoat(Scene.ends(40, 40), 20, 39, 1, 2, 1, 4);
    }

    /** A line that goes straight south from (x, 40) to (x, 0). */
    private static StandingLine straight(int x) {
        StandingLine line = Scene.ends(40, 0);
        line.stand(0, x, 40, 0);
        line.stand(1, x, 0, 1);
        return line;
    }

    private static void inACorner() {
        Check.sentence("(where the LAND ends it stays), in a corner by two of four");
        StandingLine low = Scene.oneStands(0, 0, 0, 20, 20);
        dueGoat(low, 0, 0, 1, 2, 1, 2);
        dueGoat(low, 0, 0, 1, 1, 1, 4);
        dueGoat(low, 0, 0, 1, 0, 1, 4);
        StandingLine high = Scene.oneStands(0, 40, 40, 20, 20);
        dueGoat(high, 40, 40, 1, 2, 1, 2);
        dueGoat(high, 40, 40, 1, 0, 1, 4);
        dueGoat(high, 40, 40, 1, 1, 1, 4);
    }

    private static void asItIsNow() {
        Check.sentence("GOAT: that it ends on a told side (now, whatever the PAD holds)");
        StandingLine x = Scene.oneStands(0, 20, 40, 20, 20);
        Scene.text(x, "Ax");
        dueGoat(x, 20, 38, 0, 1, 1, 1);
        Scene.text(x, "!");
        dueGoat(x, 20, 38, 0, 1, 1, 1);
    }

    private static void yearRanges() {
        Check.sentence("A YEAR by a seed (0 to 9999) of m ACTS (1 to 99) / SOUTH (what = 0), steps (1), PINCHED (2). OUTSIDE.");
        Check.range("year seed", 0, 9999, OUTSIDE, seed -> Scene.threeStand().year(seed, 1, 0));
        Check.range("year m", 1, 99, OUTSIDE, m -> Scene.threeStand().year(5, m, 0));
        Check.range("year what", 0, 2, OUTSIDE, what -> Scene.threeStand().year(5, 5, what));
    }

    private static void dueYear(StandingLine x, int seed, int m, int south, int steps) {
        Check.due("year(" + seed + ", " + m + ", 0)", x.year(seed, m, 0), south);
        Check.due("year(" + seed + ", " + m + ", 1)", x.year(seed, m, 1), steps);
    }

    private static void leftOver() {
        Check.sentence("x becomes (75 x and 74) left over by 65537");
        // 74: C, to the east, three steps.
        dueYear(Scene.oneStands(2, 10, 20, 30, 20), 0, 1, 14 * 50 + 28 * 40, 3);
        // 75 * 9999 + 74 = 749999 = 11 * 65537 + 29092: E, to the north, one step.
        dueYear(Scene.oneStands(4, 20, 20, 20, 20), 9999, 1, 42 * 41, 1);
        // 75 * 880 + 74 = 65537 + 537: B, to the west, two steps.
        dueYear(Scene.oneStands(1, 20, 20, 30, 20), 880, 1, 19 * 50 + 23 * 40, 2);
        // 75 * 4394 + 74 = 5 * 65537 + 1939: D, to the south, one step.
        dueYear(Scene.oneStands(3, 20, 20, 20, 20), 4394, 1, 42 * 39, 1);
        // 75 * 4382 + 74 = 5 * 65537 + 1039: H, to the east, three steps.
        dueYear(Scene.oneStands(7, 20, 20, 30, 20), 4382, 1, 24 * 50 + 18 * 40, 3);
        // 75 * 901 + 74 = 65537 + 2112: A, to the north, one step.
        dueYear(Scene.oneStands(0, 20, 20, 20, 20), 901, 1, 42 * 41, 1);
    }

    private static void theDayEnds() {
        Check.sentence("if x is left over by 5 as 0, the day ends");
        // 75 * 1747 + 74 = 2 * 65537 + 25, which else were B's step; then 1949: F, to the west, one step.
        StandingLine x = Scene.oneStands(1, 20, 20, 20, 30);
        Check.due("year(1747, 1, 1)", x.year(1747, 1, 1), 0);
        StandingLine tired = Scene.oneStands(5, 20, 20, 20, 30);
        tired.set(2, 1);
        Scene.text(tired, "Fn1");
        tired.done();
        Check.due("year(1747, 2, 1): whoever walked may walk again", tired.year(1747, 2, 1), 1);
        // By 24: C two to the south, the day ends, C three to the west.
        StandingLine apart = Scene.oneStands(2, 20, 20, 20, 20);
        apart.set(2, 3);
        Check.due("year(24, 1, 1)", apart.year(24, 1, 1), 2);
        Check.due("year(24, 2, 1)", apart.year(24, 2, 1), 2);
        Check.due("year(24, 3, 1)", apart.year(24, 3, 1), 5);
    }

    private static void manyActs() {
        Check.sentence("of m ACTS (1 to 99), from all as it is");
        StandingLine x = Scene.eightStand();
        x.set(2, 99);
        int before = 0;
        int grown = 0;
        for (int m = 1; m <= 99; m++) {
            int steps = x.year(5, m, 1);
            Check.holds("by one ACT at most three steps more", steps >= before && steps <= before + 3);
            grown += steps > before ? 1 : 0;
            before = steps;
        }
        Check.holds("many walk", grown > 30);
        // By 5: B three to the north, F two to the south, D two to the east, F one to the south.
        Check.due("year(5, 1, 1)", x.year(5, 1, 1), 3);
        Check.due("year(5, 2, 1)", x.year(5, 2, 1), 5);
        Check.due("year(5, 4, 1)", x.year(5, 4, 1), 8);
        Check.due("year(5, 4, 0): north by 3, south by 3, of ten each", x.year(5, 4, 0), 1680 + 3 * 10 - 3 * 10);
    }

    private static void ifThatCanBe() {
        Check.sentence("walks .. steps .., if that can be");
        dueYear(Scene.oneStands(2, 37, 20, 20, 20), 0, 1, 1680, 3);
        dueYear(Scene.oneStands(2, 38, 30, 20, 20), 0, 1, 39 * 50 + 3 * 50, 0);
        StandingLine x = Scene.oneStands(2, 20, 20, 20, 20);
        x.stand(0, 23, 20, 1);
        Check.due("taken", x.year(0, 1, 1), 0);
        x.leave(0);
        x.stand(0, 22, 20, 1);
        Check.due("passed by", x.year(0, 1, 1), 3);
    }

    private static void stepsByReach() {
        Check.sentence("if that can be: he would have WALKED more than REACH");
        // By 3: D one to the east, two to the north.
        int[] due = {0, 1, 1, 3, 3};
        for (int reach = 0; reach <= 4; reach++) {
            StandingLine x = Scene.oneStands(3, 20, 20, 20, 20);
            x.set(2, reach);
            Check.due("year(3, 2, 1) with a reach of " + reach, x.year(3, 2, 1), due[reach]);
        }
        StandingLine walked = Scene.oneStands(3, 20, 20, 20, 20);
        Scene.text(walked, "Dn9De9");
        walked.done();
        Check.due("eighteen of twenty are walked", walked.year(3, 2, 1), 1);
    }

    private static void pinchedOrNot() {
        Check.sentence("PINCHED or not (1, 0)");
        StandingLine x = Scene.oneStands(2, 20, 20, 20, 20);
        Check.due("not", x.year(0, 1, 2), 0);
        x.stand(0, 21, 20, 1);
        Check.due("not ahead of it", x.south(1), -6);
        Check.due("C is beyond A then", x.year(0, 1, 2), 1);
        x.set(2, 2);
        Check.due("he can not be", x.year(0, 1, 2), 0);
    }

    private static void nobodyWalks() {
        Check.sentence("PERSON x left over by 8 walks .., if that can be (1 there is no such PERSON)");
        StandingLine x = new StandingLine();
        for (int seed : new int[] {0, 5, 1747, 9999}) {
            dueYear(x, seed, 99, 1680, 0);
            Check.due("year(" + seed + ", 99, 2)", x.year(seed, 99, 2), 0);
        }
    }

    private static void nothingIsDone() {
        Check.sentence("Nothing is DONE in fact.");
        StandingLine x = Scene.busy();
        String before = Scene.lookAt(x);
        int south = x.year(5, 99, 0);
        Check.due("the same again", x.year(5, 99, 0), south);
        Check.holds("all is as it was", Scene.lookAt(x).equals(before));
        Scene.text(x, "!");
        Check.due("a FAULT is no matter", x.year(5, 99, 0), south);
        Scene.text(x, "AxBxCxGx");
        Check.due("nor what the PAD holds", x.year(5, 99, 0), south);
    }
}
