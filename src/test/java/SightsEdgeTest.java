/** The boundary cases of sights, of who moved and of whom to ask: promises 20 to 23, sentence by sentence. */
public final class SightsEdgeTest {
    private static final int OUTSIDE = -2, FULL = -4, NONE = -6;

    public static void main(String[] args) {
        seenRanges();
        eightAtMost();
        sightsGo();
        movedWhat();
        nobodysIsOne();
        noneFits();
        atMostThreeSteps();
        withinTheLand();
        notWhereAnotherStands();
        fromWhereTheBookHasHim();
        personsOfSome();
        allSightsAreSo();
        askWhat();
        askNoVillages();
        askNoMoves();
        askTheLeast();
        askFewestAtTheMost();
        Check.end("SightsEdgeTest");
    }

    private static void dueMoved(String why, StandingLine x, int count, int persons) {
        Check.due(why + ", moved(0)", x.moved(0), count);
        Check.due(why + ", moved(1)", x.moved(1), persons);
    }

    private static void dueAsk(String why, StandingLine x, int village, int count) {
        Check.due(why + ", ask(0)", x.ask(0), village);
        Check.due(why + ", ask(1)", x.ask(1), count);
    }

    private static void seenRanges() {
        Check.sentence("A SIGHT more: how many. OUTSIDE");
        Check.range("seen x", 0, 40, OUTSIDE, x -> new StandingLine().seen(x, 7, 0));
        Check.range("seen y", 0, 40, OUTSIDE, y -> new StandingLine().seen(7, y, 0));
        Check.range("seen side", 0, 2, OUTSIDE, side -> new StandingLine().seen(7, 7, side));
    }

    private static void eightAtMost() {
        Check.sentence("SIGHTS, 8 at most / FULL");
        StandingLine x = new StandingLine();
        for (int i = 1; i <= 8; i++) {
            Check.due("the same one again is one more", x.seen(0, 0, 1), i);
            Check.due("told(6)", x.told(6), i);
        }
        Check.due("the ninth", x.seen(0, 0, 1), FULL);
        Check.due("the ninth, another", x.seen(5, 5, 2), FULL);
        Check.due("told(6)", x.told(6), 8);
        dueMoved("what was refused is no SIGHT", x, 1, 0);
    }

    private static void sightsGo() {
        Check.sentence("SIGHTS go: how many there were.");
        StandingLine x = new StandingLine();
        Check.due("none", x.forget(), 0);
        for (int i = 0; i < 8; i++) {
            x.seen(0, 0, 0);
        }
        dueMoved("ahead of it", x, 0, 0);
        Check.due("eight", x.forget(), 8);
        Check.due("none", x.forget(), 0);
        dueMoved("behind it", x, 1, 0);
        Check.due("there is room anew", x.seen(0, 0, 1), 1);
        dueMoved("the old ones do not come back", x, 1, 0);
    }

    private static void movedWhat() {
        Check.sentence("MOVED: how many (what = 0), PERSONS (1). OUTSIDE.");
        Check.range("moved", 0, 1, OUTSIDE, what -> Scene.threeStand().moved(what));
    }

    private static void nobodysIsOne() {
        Check.sentence("moves (nobody's is one)");
        StandingLine x = new StandingLine();
        dueMoved("nobody there", x, 1, 0);
        x.seen(5, 20, 2);
        dueMoved("nobody there, and so it is", x, 1, 0);
        StandingLine one = Scene.oneStands(4, 19, 30, 20, 20);
        one.seen(9, 25, 2);
        dueMoved("or along the piece by three steps, either way", one, 3, 16);
        one.seen(30, 25, 2);
        dueMoved("nobody's alone", one, 1, 0);
    }

    private static void noneFits() {
        Check.sentence("moves by which all SIGHTS are so: how many (none)");
        StandingLine x = new StandingLine();
        x.seen(5, 20, 0);
        dueMoved("nobody there, and it is not so", x, 0, 0);
        StandingLine one = Scene.oneStands(0, 20, 20, 20, 20);
        one.seen(9, 9, 1);
        one.seen(9, 9, 0);
        dueMoved("on two sides at once", one, 0, 0);
    }

    private static void atMostThreeSteps() {
        Check.sentence("by at most three steps (x and y together)");
        dueMoved("all that are near", Scene.oneStands(2, 20, 20, 20, 20), 25, 4);
        int[] due = {1, 1, 0, 0};
        int[] heights = {23, 17, 24, 16};
        for (int i = 0; i < 4; i++) {
            StandingLine x = Scene.oneStands(2, 20, 20, 20, 20);
            x.seen(20, heights[i], 2);
            dueMoved("onto (20, " + heights[i] + ")", x, due[i], 4 * due[i]);
        }
    }

    private static void withinTheLand() {
        Check.sentence("(within the LAND");
        int[] ends = {0, 40};
        for (int x : ends) {
            for (int y : ends) {
                dueMoved("in the corner " + x + " " + y, Scene.oneStands(0, x, y, 20, 20), 10, 1);
            }
        }
        for (int far = 0; far <= 3; far++) {
            int due = new int[] {16, 21, 24, 25}[far];
            dueMoved(far + " from the west end", Scene.oneStands(0, far, 20, 20, 20), due, 1);
            dueMoved(far + " from the east end", Scene.oneStands(0, 40 - far, 20, 20, 20), due, 1);
            dueMoved(far + " from the south end", Scene.oneStands(0, 20, far, 20, 20), due, 1);
            dueMoved(far + " from the north end", Scene.oneStands(0, 20, 40 - far, 20, 20), due, 1);
        }
    }

    private static void notWhereAnotherStands() {
        Check.sentence("not to where another one stands)");
        StandingLine x = Scene.oneStands(2, 20, 20, 20, 20);
        x.stand(5, 20, 24, 1);
        dueMoved("four steps from each other", x, 49, 36);
        x.leave(5);
        x.stand(5, 20, 23, 1);
        dueMoved("three steps", x, 47, 36);
        x.leave(5);
        x.stand(5, 21, 20, 1);
        dueMoved("one step", x, 47, 36);
    }

    private static void fromWhereTheBookHasHim() {
        Check.sentence("from where the book has him");
        StandingLine x = Scene.oneStands(2, 20, 20, 20, 20);
        x.seen(20, 23, 2);
        dueMoved("now", x, 1, 4);
        Scene.text(x, "Cn1");
        dueMoved("the PAD is no matter", x, 1, 4);
        x.done();
        dueMoved("when it is done", x, 1, 4);
        Scene.text(x, "Cn3");
        x.done();
        dueMoved("from the other side", x, 1, 4);
        x.set(2, 0);
        dueMoved("REACH is no matter", x, 1, 4);
        Scene.text(x, "!");
        dueMoved("nor a FAULT", x, 1, 4);
    }

    private static void personsOfSome() {
        Check.sentence("PERSONS of some, as bits");
        dueMoved("all eight", Scene.eightStand(), 1 + 16 - 1 + 7 * 24, 255);
        StandingLine x = Scene.threeStand();
        x.seen(10, 21, 2);
        x.seen(30, 20, 2);
        dueMoved("A alone", x, 1, 1);
    }

    private static void allSightsAreSo() {
        Check.sentence("moves by which all SIGHTS are so");
        StandingLine x = Scene.oneStands(2, 20, 20, 20, 20);
        x.seen(20, 20, 0);
        dueMoved("south of it", x, 9, 4);
        x.seen(20, 19, 1);
        dueMoved("and north of the next: one or two steps to the east or west, one to the south", x, 4, 4);
        x.forget();
        for (int i = 0; i < 7; i++) {
            x.seen(20, 40, 0);
        }
        dueMoved("seven that are so by all", x, 25, 4);
        x.seen(20, 20, 2);
        dueMoved("the eighth counts", x, 7, 4);
    }

    private static void askWhat() {
        Check.sentence("ASK: the VILLAGE (what = 0), how many (1). OUTSIDE.");
        Check.range("ask", 0, 1, OUTSIDE, what -> Scene.busy().ask(what));
        Check.range("ask of nothing", 0, 1, OUTSIDE, what -> new StandingLine().ask(what));
    }

    private static void askNoVillages() {
        Check.sentence("NONE: there are no VILLAGES");
        dueAsk("nobody there", new StandingLine(), NONE, NONE);
        dueAsk("some there", Scene.threeStand(), NONE, NONE);
        StandingLine x = Scene.threeStand();
        x.village(3, 1, 1);
        x.raze(3);
        dueAsk("razed", x, NONE, NONE);
    }

    private static void askNoMoves() {
        Check.sentence("NONE: .. or no moves");
        StandingLine x = new StandingLine();
        x.village(3, 1, 1);
        dueAsk("nobody's", x, 3, 1);
        x.seen(5, 20, 0);
        dueAsk("none", x, NONE, NONE);
    }

    private static void askTheLeast() {
        Check.sentence("fewest moves are left at the most: the least");
        StandingLine x = Scene.oneStands(2, 20, 20, 20, 20);
        for (int village = 7; village >= 0; village--) {
            x.village(village, 20, 20);
            dueAsk("all alike", x, village, 9);
        }
        x.village(0, 20, 40);
        dueAsk("the first parts nothing", x, 1, 9);
    }

    private static void askFewestAtTheMost() {
        Check.sentence("so that, on whichever side it lies, fewest moves are left at the most");
        StandingLine x = Scene.oneStands(2, 20, 20, 20, 20);
        x.village(0, 20, 40);
        dueAsk("always north", x, 0, 25);
        x.village(1, 20, 0);
        dueAsk("always south, no better", x, 0, 25);
        x.village(5, 20, 23);
        dueAsk("one is left out", x, 5, 24);
        x.village(7, 20, 20);
        dueAsk("nine, nine and seven", x, 7, 9);
        x.seen(20, 20, 2);
        dueAsk("seven are left, which none of them parts", x, 0, 7);
        x.village(6, 20, 21);
        dueAsk("nor does this one", x, 0, 7);
    }
}
