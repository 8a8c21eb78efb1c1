/** The boundary cases of sides, of the land south of the line and of pinches: promises 12 to 14, sentence by sentence. */
public final class SidesEdgeTest {
    private static final int OUTSIDE = -2, STATE = -3, NO = -5, NONE = -6;

    public static void main(String[] args) {
        pointsOfSide();
        onAPiece();
        onItsEndsButNotBeyond();
        anEvenNumber();
        lesserButNotGreater();
        straightNorthOrSouth();
        southWhat();
        southLeastAndGreatest();
        southBeyondTheLand();
        noPieceMeets();
        neighbours();
        noNeighbours();
        theLeastTwo();
        ninePieces();
        villagesOnASide();
        setsAreBits();
        noAndState();
        behindThePad();
        Check.end("SidesEdgeTest");
    }

    private static StandingLine row(int west, int east, int... points) {
        StandingLine x = Scene.ends(west, east);
        for (int i = 0; 2 * i < points.length; i++) {
            x.stand(i, points[2 * i], points[2 * i + 1], i);
        }
        return x;
    }

    private static void pointsOfSide() {
        Check.sentence("SIDES. OUTSIDE");
        Check.range("side x", 0, 40, OUTSIDE, x -> new StandingLine().side(x, 7));
        Check.range("side y", 0, 40, OUTSIDE, y -> new StandingLine().side(7, y));
        Check.due("the west end is no point of the LAND", new StandingLine().side(-1, 20), OUTSIDE);
        Check.due("nor is the east end", new StandingLine().side(41, 20), OUTSIDE);
        StandingLine x = new StandingLine();
        Check.due("side(0, 0)", x.side(0, 0), 1);
        Check.due("side(40, 0)", x.side(40, 0), 1);
        Check.due("side(0, 40)", x.side(0, 40), 0);
        Check.due("side(40, 40)", x.side(40, 40), 0);
    }

    private static void onAPiece() {
        Check.sentence("of a point: 2, if it is on a PIECE");
        StandingLine x = row(0, 40);
        Check.due("on it", x.side(20, 20), 2);
        Check.due("less than one step above", x.side(21, 21), 0);
        Check.due("less than one step below", x.side(19, 19), 1);
        Check.due("along the land's south end", row(0, 0).side(13, 0), 2);
        Check.due("along the land's north end", row(40, 40).side(13, 40), 2);
        StandingLine folded = row(20, 20, 30, 20, 10, 20);
        Check.due("on three of them", folded.side(20, 20), 2);
        Check.due("above three of them", folded.side(20, 21), 0);
        Check.due("below three of them", folded.side(20, 19), 1);
    }

    private static void onItsEndsButNotBeyond() {
        Check.sentence("on a PIECE: from one end to the other");
        StandingLine x = row(20, 20, 10, 30, 20, 35);
        Check.due("its first end", x.side(10, 30), 2);
        Check.due("between", x.side(12, 31), 2);
        Check.due("its last end", x.side(20, 35), 2);
        Check.due("just ahead of it", x.side(8, 29), 0);
        Check.due("just beyond it", x.side(22, 36), 0);
        StandingLine back = row(20, 20, 20, 35, 10, 30);
        Check.due("between, from east to west", back.side(18, 34), 2);
        Check.due("just beyond it, from east to west", back.side(8, 29), 0);
    }

    private static void anEvenNumber() {
        Check.sentence("0 (north of the LINE), if an even number of PIECES lies straight to the north of it, else 1 (south)");
        StandingLine x = row(20, 20, 30, 30, 10, 25);
        Check.due("none", x.side(20, 40), 0);
        Check.due("none, just above the highest", x.side(20, 28), 0);
        Check.due("one", x.side(20, 27), 1);
        Check.due("two", x.side(20, 25), 0);
        Check.due("three", x.side(20, 20), 1);
        Check.due("one of one", x.side(5, 0), 1);
        StandingLine wide = row(20, 20, 30, 30, 10, 10);
        Check.due("one of three", wide.side(20, 25), 1);
        Check.due("two of three", wide.side(25, 20), 0);
        Check.due("three of three", wide.side(20, 0), 1);
    }

    private static void lesserButNotGreater() {
        Check.sentence("a PIECE lies so by its x from the lesser on, but not by the greater");
        StandingLine x = row(20, 20, 30, 30, 10, 25);
        Check.due("by the greater of two that turn back: the third alone", x.side(30, 5), 1);
        Check.due("between the third and them: none", x.side(30, 24), 0);
        Check.due("one step to the west of it: two", x.side(29, 24), 0);
        Check.due("by the lesser of two that turn on: these and the first", x.side(10, 5), 1);
        Check.due("between the first and them: two", x.side(10, 24), 0);
        Check.due("one step to the west of it: none", x.side(9, 24), 0);
        StandingLine on = row(20, 20, 20, 30);
        Check.due("where one goes on from another: one", on.side(20, 29), 1);
        StandingLine over = row(20, 20, 30, 30, 20, 35, 10, 33);
        Check.due("below a corner by which two go on to the west: one of them", over.side(20, 34), 1);
        Check.due("below these and the first", over.side(20, 20), 1);
    }

    private static void straightNorthOrSouth() {
        Check.sentence("(one that goes straight north or south by none)");
        StandingLine x = row(20, 20, 20, 30, 20, 10);
        Check.due("below it", x.side(20, 9), 1);
        Check.due("above it", x.side(20, 31), 0);
        Check.due("on its upper end", x.side(20, 30), 2);
        Check.due("on it", x.side(20, 20), 2);
        Check.due("on its lower end", x.side(20, 10), 2);
        StandingLine up = row(20, 20, 20, 10, 20, 30);
        Check.due("below it, going north", up.side(20, 9), 1);
        Check.due("above it, going north", up.side(20, 31), 0);
        for (StandingLine line : new StandingLine[] {x, up}) {
            Check.due("one step to the west of it, below", line.side(19, 5), 1);
            Check.due("one step to the east of it, below", line.side(21, 5), 1);
            Check.due("one step to the west of it, above", line.side(19, 35), 0);
            Check.due("one step to the east of it, above", line.side(21, 35), 0);
        }
        StandingLine twice = row(20, 20, 20, 10, 20, 20, 20, 30);
        Check.due("below two of them", twice.side(20, 5), 1);
        Check.due("on both", twice.side(20, 20), 2);
    }

    private static void southWhat() {
        Check.sentence("SOUTH behind (what = 0), PINCHED (1; NONE). OUTSIDE");
        Check.range("south", 0, 1, OUTSIDE, what -> new StandingLine().south(what));
    }

    private static void southLeastAndGreatest() {
        Check.sentence("SOUTH: twice the land south of the LINE");
        Check.due("nothing", row(0, 0).south(0), 0);
        Check.due("all of it", row(40, 40).south(0), 3360);
        Check.due("half of it", row(0, 40).south(0), 1680);
        Check.due("a person in the corner", row(0, 0, 40, 40).south(0), 41 * 40 + 40);
        Check.due("one that goes straight north gives nothing", row(20, 20, 20, 20, 20, 40).south(0),
            21 * 40 + 21 * 60);
    }

    /** East along the one end of the land and back along the other, three times. */
    private static StandingLine wound(int far, int near) {
        return row(far, far, 40, far, 40, near, 0, near, 0, far, 39, far, 39, near, 1, near, 1, far);
    }

    private static void southBeyondTheLand() {
        Check.sentence("of all PIECES, from (x, y) to (v, w), (v - x) times (y + w) together");
        Check.due("more than all", wound(40, 0).south(0), 80 * (41 + 39 + 40));
        Check.due("less than nothing", wound(0, 40).south(0), -80 * (40 + 38));
    }

    private static void noPieceMeets() {
        Check.sentence("PINCHED: .. NONE");
        Check.due("one PIECE alone", row(20, 20).south(1), NONE);
        Check.due("two", row(40, 0, 0, 0).south(1), NONE);
        Check.due("nine in a row", Scene.eightStand().south(1), NONE);
        Check.due("there and back apart", row(20, 20, 30, 30, 10, 10).south(1), NONE);
    }

    private static void neighbours() {
        Check.sentence("that have more than their common end in common, if they are (neighbours)");
        Check.due("straight on", row(20, 20, 20, 20).south(1), NONE);
        Check.due("a right angle", row(20, 20, 20, 20, 20, 30).south(1), NONE);
        Check.due("nearly back", row(20, 20, 40, 20, 0, 21).south(1), NONE);
        Check.due("back, not so far", row(20, 20, 20, 20, 19, 20).south(1), 1);
        Check.due("straight back south", row(20, 20, 10, 20, 10, 30, 10, 25).south(1), 12);
        Check.due("slantwise back", row(0, 40, 10, 11, 9, 10).south(1), 1);
        Check.due("slantwise back, but by one step beside", row(0, 40, 10, 11, 9, 11).south(1), NONE);
        Check.due("slantwise back, further on", row(20, 0, 5, 5, 15, 15, 10, 10).south(1), 12);
        Check.due("slantwise back, further on", row(20, 0, 5, 10, 15, 15, 11, 13).south(1), 12);
        Check.due("back and further than it came", row(40, 20, 10, 30, 10, 20, 10, 35).south(1), 2);
    }

    private static void noNeighbours() {
        Check.sentence("that meet: that have some point in common, if they are no neighbours");
        Check.due("an end on another", row(20, 40, 20, 20, 20, 30, 10, 20).south(1), 2);
        Check.due("an end short of it, but another crosses", row(20, 40, 20, 20, 20, 30, 10, 21).south(1), 13);
        Check.due("an end beyond it", row(20, 40, 20, 20, 20, 30, 10, 19).south(1), 2);
        Check.due("along another", row(20, 0, 20, 20, 20, 30, 25, 30, 25, 20, 5, 20).south(1), 4);
        Check.due("in one line with another, but apart", row(20, 0, 20, 20, 20, 30, 25, 30, 25, 20, 21, 20).south(1), NONE);
        Check.due("along another, north and south", row(20, 20, 20, 0, 20, 10, 21, 15, 20, 20, 20, 5).south(1), 14);
        Check.due("in one line, apart, north and south", row(20, 20, 20, 0, 20, 10, 21, 15, 20, 20, 20, 30).south(1), NONE);
        Check.due("by less than a step beside a corner", row(20, 40, 20, 20, 20, 30, 1, 21).south(1), NONE);
        Check.due("by less than a step across it", row(20, 39, 20, 20, 20, 30, 1, 21).south(1), 13);
    }

    private static void theLeastTwo() {
        Check.sentence("the least two PIECES (10 times the lesser and the greater)");
        StandingLine x = row(20, 0, 30, 20, 30, 40, 20, 40, 15, 40, 12, 40, 10, 39, 10, 35, 10, 30);
        Check.due("the first and the ninth", x.south(1), 8);
        StandingLine many = row(20, 20, 20, 20, 19, 20, 21, 20, 18, 20);
        Check.due("the first of many", many.south(1), 1);
        StandingLine lesser = row(20, 40, 20, 20, 20, 30, 10, 20);
        Check.due("the lesser ahead of the greater", lesser.south(1), 2);
    }

    private static void ninePieces() {
        Check.sentence("PIECES are numbered from the west end on, from 0.");
        StandingLine x = row(20, 20, 0, 20, 5, 20, 10, 20, 15, 20, 20, 20, 36, 30, 36, 20, 33, 20);
        Check.due("the seventh and the ninth", x.south(1), 68);
        x.leave(0);
        Check.due("the sixth and the eighth, when one has left", x.south(1), 57);
    }

    private static void villagesOnASide() {
        Check.sentence("VILLAGES on a side (0 to 2), behind, as bits. OUTSIDE");
        Check.range("lies", 0, 2, OUTSIDE, side -> new StandingLine().lies(side));
    }

    private static void setsAreBits() {
        Check.sentence("those on a side, as bits / Sets are bits.");
        int[] heights = {30, 10, 20};
        for (int side = 0; side <= 2; side++) {
            StandingLine x = new StandingLine();
            for (int village = 0; village < 8; village++) {
                x.village(village, village, heights[side]);
            }
            for (int other = 0; other <= 2; other++) {
                Check.due("lies(" + other + ") of all on " + side, x.lies(other), other == side ? 255 : 0);
            }
            x.raze(3);
            Check.due("lies(" + side + ") of seven", x.lies(side), 247);
        }
    }

    private static void noAndState() {
        Check.sentence("side, south, lies: NO, STATE, likewise");
        for (int i = 0; i <= 2; i++) {
            StandingLine faulty = Scene.text(Scene.threeStand(), "DxA");
            Check.due("side behind a FAULT", faulty.side(i, i), NO);
            Check.due("lies behind a FAULT", faulty.lies(i), NO);
            StandingLine impossible = Scene.text(Scene.threeStand(), "An1Dx");
            Check.due("side behind what can not be", impossible.side(i, i), STATE);
            Check.due("lies behind what can not be", impossible.lies(i), STATE);
        }
        for (int what = 0; what <= 1; what++) {
            Check.due("south behind a FAULT", Scene.text(Scene.threeStand(), "DxA").south(what), NO);
            Check.due("south behind what can not be", Scene.text(Scene.threeStand(), "An1Dx").south(what), STATE);
        }
    }

    private static void behindThePad() {
        Check.sentence("SIDES behind / SOUTH behind / VILLAGES on a side, behind");
        StandingLine x = Scene.threeStand();
        x.village(5, 20, 22);
        Scene.text(x, "Cx");
        Check.due("side(20, 22)", x.side(20, 22), 0);
        Check.due("south(0)", x.south(0), 1680);
        Check.due("lies(0)", x.lies(0), 32);
        x.set(2, 99);
        Scene.text(x, "Bs9");
        Check.due("south(1)", x.south(1), NONE);
        Scene.text(x, "Bw9Bw9Bw7");
        Check.due("south(1)", x.south(1), 2);
        x.wipe();
        Check.due("side(20, 22)", x.side(20, 22), 1);
        Check.due("south(0)", x.south(0), 1760);
        Check.due("lies(1)", x.lies(1), 32);
        Check.due("south(1)", x.south(1), NONE);
    }
}
