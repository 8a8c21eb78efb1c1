/** The boundary cases of part 1's persons, line and villages: promises 1 to 6, sentence by sentence. */
public final class PersonsEdgeTest {
    private static final int UNKNOWN = -1, OUTSIDE = -2, STATE = -3, NONE = -6;
    private static final int LOW = Integer.MIN_VALUE, HIGH = Integer.MAX_VALUE;

    public static void main(String[] args) {
        nobodyAtFirst();
        twentyAtFirst();
        nothingSaidOrKeptAtFirst();
        objectsShareNothing();
        pointsOfTheLand();
        personsByNumber();
        noTwoOnOnePoint();
        placesOfTheRow();
        whoStoodFromThereOn();
        howManyAre();
        heIsThereAlready();
        whoLeaves();
        whoLeavesWasNot();
        hisPointIsFree();
        theLineEnds();
        endsWithin();
        reachWithin();
        whichItWas();
        walkedAtFirst();
        villagesByNumber();
        pointsOfVillages();
        howManyLie();
        villageLiesElsewhere();
        villageIsNoMore();
        villageWasNot();
        fiveHundredAndTwelveCalls();
        Check.end("PersonsEdgeTest");
    }

    private static void nobodyAtFirst() {
        Check.sentence("Nobody stands; no VILLAGES.");
        StandingLine x = new StandingLine();
        Check.due("told(1)", x.told(1), 0);
        Check.due("told(5)", x.told(5), 0);
        for (int i = 0; i < 8; i++) {
            Check.due("told(" + (10 + i) + ")", x.told(10 + i), NONE);
            Check.due("told(" + (20 + 10 * i) + ")", x.told(20 + 10 * i), OUTSIDE);
            Check.due("told(" + (100 + i) + ")", x.told(100 + i), OUTSIDE);
            Check.due("behind(" + i + ", 0)", x.behind(i, 0), UNKNOWN);
            Check.due("leave(" + i + ")", x.leave(i), UNKNOWN);
            Check.due("raze(" + i + ")", x.raze(i), UNKNOWN);
        }
        for (int side = 0; side <= 2; side++) {
            Check.due("lies(" + side + ")", x.lies(side), 0);
        }
    }

    private static void twentyAtFirst() {
        Check.sentence("WEST and EAST are 0 to 40, 20 at first. REACH (0 to 99; 20 at first)");
        StandingLine x = new StandingLine();
        Check.due("told(2)", x.told(2), 20);
        Check.due("told(3)", x.told(3), 20);
        Check.due("told(4)", x.told(4), 20);
        Check.due("south(0)", x.south(0), 42 * 40);
        Check.due("side(0, 20)", x.side(0, 20), 2);
        Check.due("side(40, 20)", x.side(40, 20), 2);
    }

    private static void nothingSaidOrKeptAtFirst() {
        Check.sentence("StandingLine()");
        StandingLine x = new StandingLine();
        Check.due("told(0)", x.told(0), 0);
        Check.due("told(6)", x.told(6), 0);
        Check.due("wipe()", x.wipe(), 0);
        Check.due("forget()", x.forget(), 0);
        Check.due("fault()", x.fault(), NONE);
        Check.due("restore(0)", x.restore(0), STATE);
        Check.due("restore(1)", x.restore(1), STATE);
    }

    private static void objectsShareNothing() {
        Check.sentence("A new object");
        String first = Scene.lookAt(new StandingLine());
        StandingLine ahead = new StandingLine();
        Scene.busy().image(1);
        Check.holds("one made ahead of another's calls is as new", Scene.lookAt(ahead).equals(first));
        Check.holds("one made behind them is as new", Scene.lookAt(new StandingLine()).equals(first));
        Check.due("restore(1)", ahead.restore(1), STATE);
    }

    private static void pointsOfTheLand() {
        Check.sentence("The LAND is of points (x, y), x 0 to 40 from west to east, y 0 to 40 from south to north.");
        Check.range("stand x", 0, 40, OUTSIDE, bad -> new StandingLine().stand(0, bad, 7, 0));
        Check.range("stand y", 0, 40, OUTSIDE, bad -> new StandingLine().stand(0, 7, bad, 0));
        int[] ends = {0, 40};
        for (int x : ends) {
            for (int y : ends) {
                StandingLine line = new StandingLine();
                Check.due("stand(7, " + x + ", " + y + ", 0)", line.stand(7, x, y, 0), 1);
                Check.due("told(90)", line.told(90), x);
                Check.due("told(91)", line.told(91), y);
                Check.due("on himself, the side", line.side(x, y), 2);
            }
        }
    }

    private static void personsByNumber() {
        Check.sentence("PERSONS 0 to 7 (A to H) / UNKNOWN: the number");
        Check.range("stand", 0, 7, UNKNOWN, person -> new StandingLine().stand(person, 3, 3, 0));
        for (int person = 0; person < 8; person++) {
            StandingLine x = new StandingLine();
            x.stand(person, 3, 4, 0);
            Check.due("told(1)", x.told(1), 1 << person);
            Scene.text(x, (char) ('A' + person) + "n1");
            Check.due("judge(0) of his letter", x.judge(0), NONE);
            Check.due("behind(" + person + ", 1)", x.behind(person, 1), 5);
        }
    }

    private static void noTwoOnOnePoint() {
        Check.sentence("no two on one / STATE: another one stands there");
        StandingLine x = Scene.threeStand();
        Check.due("stand(3, 20, 24, 0)", x.stand(3, 20, 24, 0), STATE);
        Check.due("stand(3, 20, 24, 3)", x.stand(3, 20, 24, 3), STATE);
        Check.due("one x further", x.stand(3, 21, 24, 0), 4);
        Check.due("one y further", x.stand(4, 20, 25, 0), 5);
        Check.due("y and x the other way round", x.stand(5, 24, 20, 0), 6);
        x.village(0, 8, 8);
        Check.due("on a village", x.stand(6, 8, 8, 0), 7);
    }

    private static void placesOfTheRow() {
        Check.sentence("in a place of the ROW (0 to how many there are) / OUTSIDE: the place");
        for (int there = 0; there < 8; there++) {
            int count = there;
            Check.range("stand with " + there + " there, the place", 0, there, OUTSIDE,
                place -> firstStand(count).stand(7, 39, 39, place));
        }
        Check.due("nobody is left to come", firstStand(8).stand(7, 39, 39, 8), STATE);
        Check.due("nor beyond", firstStand(8).stand(7, 39, 39, 9), OUTSIDE);
    }

    private static StandingLine firstStand(int count) {
        StandingLine x = new StandingLine();
        for (int i = 0; i < count; i++) {
            x.stand(i, i, 2 * i, i);
        }
        return x;
    }

    private static void dueRow(StandingLine x, int... row) {
        for (int i = 0; i < 8; i++) {
            Check.due("told(" + (10 + i) + ")", x.told(10 + i), i < row.length ? row[i] : NONE);
        }
    }

    private static void whoStoodFromThereOn() {
        Check.sentence("who stood from there on come behind");
        StandingLine x = firstStand(3);
        x.stand(7, 39, 39, 0);
        dueRow(x, 7, 0, 1, 2);
        x = firstStand(3);
        x.stand(7, 39, 39, 2);
        dueRow(x, 0, 1, 7, 2);
        x = firstStand(3);
        x.stand(7, 39, 39, 3);
        dueRow(x, 0, 1, 2, 7);
        x = firstStand(7);
        x.stand(7, 39, 39, 0);
        dueRow(x, 7, 0, 1, 2, 3, 4, 5, 6);
        x = firstStand(7);
        x.stand(7, 39, 39, 7);
        dueRow(x, 0, 1, 2, 3, 4, 5, 6, 7);
    }

    private static void howManyAre() {
        Check.sentence("A PERSON stands on a point, in a place of the ROW: how many are.");
        StandingLine x = new StandingLine();
        for (int i = 7; i >= 0; i--) {
            Check.due("stand(" + i + ")", x.stand(i, i, i, 0), 8 - i);
        }
        Check.due("told(1)", x.told(1), 255);
    }

    private static void heIsThereAlready() {
        Check.sentence("STATE: he is there already");
        StandingLine x = Scene.threeStand();
        Check.due("elsewhere", x.stand(2, 1, 1, 0), STATE);
        Check.due("where he stands", x.stand(2, 20, 24, 1), STATE);
        Check.due("where another stands", x.stand(2, 10, 20, 1), STATE);
        Check.due("told(40)", x.told(40), 20);
        x.leave(2);
        Check.due("when he has left", x.stand(2, 1, 1, 0), 3);
    }

    private static void whoLeaves() {
        Check.sentence("A PERSON is no more: how many are.");
        StandingLine x = firstStand(8);
        Check.due("the first", x.leave(0), 7);
        dueRow(x, 1, 2, 3, 4, 5, 6, 7);
        Check.due("the last", x.leave(7), 6);
        dueRow(x, 1, 2, 3, 4, 5, 6);
        Check.due("one between", x.leave(3), 5);
        dueRow(x, 1, 2, 4, 5, 6);
        int left = 5;
        for (int person : new int[] {1, 2, 4, 5, 6}) {
            left--;
            Check.due("leave(" + person + ")", x.leave(person), left);
        }
        dueRow(x);
        Check.due("the line runs from end to end", x.south(0), 1680);
    }

    private static void whoLeavesWasNot() {
        Check.sentence("UNKNOWN: he was not.");
        for (int beyond : Check.beyond(0, 7)) {
            Check.due("leave(" + beyond + ")", firstStand(8).leave(beyond), UNKNOWN);
        }
        StandingLine x = firstStand(7);
        Check.due("never there", x.leave(7), UNKNOWN);
        x.leave(2);
        Check.due("twice", x.leave(2), UNKNOWN);
        Check.due("told(1)", x.told(1), 123);
        Scene.text(x, "BxA>H");
        x.done();
        Check.due("dead", x.leave(1), UNKNOWN);
        Check.due("who has an heir", x.leave(0), UNKNOWN);
        Check.due("the heir", x.leave(7), 4);
    }

    private static void hisPointIsFree() {
        Check.sentence("A PERSON is no more");
        StandingLine x = Scene.threeStand();
        x.leave(2);
        Check.due("his point", x.stand(4, 20, 24, 0), 3);
        Check.due("he himself", x.stand(2, 20, 25, 3), 4);
        dueRow(x, 4, 0, 1, 2);
    }

    private static void theLineEnds() {
        Check.sentence("from its west end (-1, WEST) to the first of the ROW, .., from the last to its east end (41, EAST)");
        StandingLine x = Scene.ends(40, 0);
        Check.due("at x 0 it is just below 40", x.side(0, 40) * 10 + x.side(0, 39), 1);
        Check.due("at x 40 it is just above 0", x.side(40, 1) * 10 + x.side(40, 0), 1);
        Check.due("in the middle it is at 20", x.side(20, 20), 2);
        Check.due("south(0)", x.south(0), 42 * 40);
        StandingLine one = Scene.oneStands(5, 0, 40, 0, 0);
        Check.due("south(0)", one.south(0), 40 + 41 * 40);
        StandingLine other = Scene.oneStands(5, 40, 40, 0, 0);
        Check.due("south(0)", other.south(0), 41 * 40 + 40);
    }

    private static void endsWithin() {
        Check.sentence("WEST and EAST are 0 to 40");
        Check.range("set(0, ..)", 0, 40, OUTSIDE, v -> new StandingLine().set(0, v));
        Check.range("set(1, ..)", 0, 40, OUTSIDE, v -> new StandingLine().set(1, v));
        StandingLine x = new StandingLine();
        x.set(0, 40);
        x.set(1, 0);
        Check.due("told(2)", x.told(2), 40);
        Check.due("told(3)", x.told(3), 0);
        Check.due("told(4)", x.told(4), 20);
    }

    private static void reachWithin() {
        Check.sentence("REACH (0 to 99");
        Check.range("set(2, ..)", 0, 99, OUTSIDE, v -> new StandingLine().set(2, v));
        StandingLine x = new StandingLine();
        x.set(2, 99);
        Check.due("told(4)", x.told(4), 99);
        x.set(2, 0);
        Check.due("told(4)", x.told(4), 0);
        Check.due("told(2)", x.told(2), 20);
        Check.due("told(3)", x.told(3), 20);
    }

    private static void whichItWas() {
        Check.sentence("WEST (which = 0), EAST (1), REACH (2): which it was. OUTSIDE.");
        Check.range("set(.., 5)", 0, 2, OUTSIDE, which -> new StandingLine().set(which, 5));
        StandingLine x = new StandingLine();
        for (int which = 0; which <= 2; which++) {
            Check.due("at first", x.set(which, 0), 20);
            Check.due("from the least", x.set(which, 40), 0);
            Check.due("to what it is", x.set(which, 40), 40);
            Check.due("what is refused is not kept", x.set(which, which == 2 ? 100 : 41), OUTSIDE);
            Check.due("so it was still", x.set(which, 3), 40);
        }
    }

    private static void walkedAtFirst() {
        Check.sentence("WALKED of each in this day (0 at first)");
        StandingLine x = Scene.threeStand();
        Check.due("told(22)", x.told(22), 0);
        Scene.text(x, "An5");
        x.done();
        Check.due("told(22)", x.told(22), 5);
        x.leave(0);
        x.stand(0, 1, 1, 0);
        Check.due("who comes anew", x.told(22), 0);
    }

    private static void villagesByNumber() {
        Check.sentence("VILLAGES 0 to 7 / UNKNOWN");
        Check.range("village", 0, 7, UNKNOWN, village -> new StandingLine().village(village, 3, 3));
        for (int village = 0; village < 8; village++) {
            StandingLine x = new StandingLine();
            x.village(village, 3, 4);
            Check.due("told(5)", x.told(5), 1 << village);
            Check.due("told(" + (100 + village) + ")", x.told(100 + village), 154);
        }
    }

    private static void pointsOfVillages() {
        Check.sentence("VILLAGES 0 to 7 lie on points / OUTSIDE");
        Check.range("village x", 0, 40, OUTSIDE, x -> new StandingLine().village(0, x, 7));
        Check.range("village y", 0, 40, OUTSIDE, y -> new StandingLine().village(0, 7, y));
        StandingLine line = new StandingLine();
        line.village(0, 40, 40);
        Check.due("told(100)", line.told(100), 2040);
        line.village(0, 0, 0);
        Check.due("told(100)", line.told(100), 0);
    }

    private static void howManyLie() {
        Check.sentence("A VILLAGE lies on a point: how many do.");
        StandingLine x = Scene.threeStand();
        for (int i = 0; i < 8; i++) {
            Check.due("all on one, where a PERSON stands", x.village(i, 20, 24), i + 1);
        }
        Check.due("told(5)", x.told(5), 255);
    }

    private static void villageLiesElsewhere() {
        Check.sentence("A VILLAGE lies on a point");
        StandingLine x = new StandingLine();
        x.village(3, 1, 2);
        Check.due("it is still one", x.village(3, 2, 1), 1);
        Check.due("told(103)", x.told(103), 101);
        Check.due("refused, it lies where it lay", x.village(3, 41, 1), OUTSIDE);
        Check.due("told(103)", x.told(103), 101);
    }

    private static void villageIsNoMore() {
        Check.sentence("A VILLAGE is no more: how many are.");
        StandingLine x = new StandingLine();
        for (int i = 0; i < 8; i++) {
            x.village(i, i, i);
        }
        for (int i = 7; i >= 0; i--) {
            Check.due("raze(" + i + ")", x.raze(i), i);
            Check.due("told(5)", x.told(5), (1 << i) - 1);
            Check.due("told(" + (100 + i) + ")", x.told(100 + i), OUTSIDE);
        }
        Check.due("anew", x.village(7, 5, 5), 1);
    }

    private static void villageWasNot() {
        Check.sentence("UNKNOWN: it was not.");
        StandingLine x = new StandingLine();
        for (int i = 0; i < 8; i++) {
            x.village(i, i, i);
        }
        for (int beyond : Check.beyond(0, 7)) {
            Check.due("raze(" + beyond + ")", x.raze(beyond), UNKNOWN);
        }
        for (int wraps : new int[] {32, 39, -32, -25, LOW + 7, HIGH - 24}) {
            Check.due("raze(" + wraps + ")", x.raze(wraps), UNKNOWN);
        }
        x.raze(4);
        Check.due("twice", x.raze(4), UNKNOWN);
        Check.due("told(5)", x.told(5), 239);
    }

    private static void fiveHundredAndTwelveCalls() {
        Check.sentence("An object is used for at most 512 calls after it has been made");
        StandingLine x = new StandingLine();
        for (int i = 0; i < 127; i++) {
            Check.due("stand", x.stand(i % 8, 40, i % 41, 0), 1);
            Check.due("say", x.say('.'), 1);
            Check.due("done", x.done(), 1);
            Check.due("leave", x.leave(i % 8), 0);
        }
        Check.due("the 509th call", x.stand(7, 20, 30, 0), 1);
        Check.due("the 510th call", x.image(1), 1);
        Check.due("the 511th call", x.restore(1), 1);
        Check.due("the 512th call", x.south(0), 2100);
    }
}
