/** The boundary cases of part 3's steps and deaths, and of the crowns: promises 16 to 19 and 24, sentence by sentence. */
public final class StepsEdgeTest {
    private static final int UNKNOWN = -1, OUTSIDE = -2, NONE = -6;

    public static void main(String[] args) {
        swayRanges();
        swayByNobody();
        swayByNoStep();
        swayNever();
        swayWhereNobodyStands();
        swayLeastPerson();
        swayLeastPoint();
        swayFarthest();
        swayWithinTheLand();
        swayOthersStanding();
        swayPinchedNoMatter();
        fairWhat();
        fairWithoutAMinus();
        fairNoneAheadOfAll();
        fairLeastOfTheBest();
        fairWithinTheLand();
        fairNotOnAnother();
        cedesAndTenThousand();
        cedesUnknown();
        ordersWhat();
        ordersOfNobody();
        ordersNone();
        ordersOfAllEight();
        ordersBehindEachDeath();
        crownsTurns();
        crownsOfNobody();
        crownsReachNoMatter();
        crownsWithinTheLand();
        crownsNotOnAnother();
        crownsOrNone();
        Check.end("StepsEdgeTest");
    }

    private static void dueSway(StandingLine line, int x, int y, int side, int... want) {
        for (int what = 0; what <= 2; what++) {
            Check.due("sway(" + x + ", " + y + ", " + side + ", " + what + ")",
                line.sway(x, y, side, what), want.length == 1 ? want[0] : want[what]);
        }
    }

    private static void swayRanges() {
        Check.sentence("SWAY: how many (what = 0), who (1), to where (2); NONE. OUTSIDE.");
        Check.range("sway x", 0, 40, OUTSIDE, x -> Scene.threeStand().sway(x, 7, 1, 0));
        Check.range("sway y", 0, 40, OUTSIDE, y -> Scene.threeStand().sway(7, y, 1, 0));
        Check.range("sway side", 0, 2, OUTSIDE, side -> Scene.threeStand().sway(7, 7, side, 0));
        Check.range("sway what", 0, 2, OUTSIDE, what -> Scene.threeStand().sway(7, 7, 1, what));
    }

    private static void swayByNobody() {
        Check.sentence("one PERSON must be moved by .. NONE");
        StandingLine x = new StandingLine();
        dueSway(x, 5, 5, 1, NONE);
        dueSway(x, 5, 30, 0, NONE);
        dueSway(x, 5, 20, 2, NONE);
    }

    private static void swayByNoStep() {
        Check.sentence("how many (0, too: to where he stands)");
        StandingLine x = Scene.threeStand();
        dueSway(x, 20, 10, 1, 0, 0, 520);
        dueSway(x, 20, 40, 0, 0, 0, 520);
        dueSway(x, 20, 24, 2, 0, 0, 520);
        dueSway(Scene.oneStands(7, 0, 0, 20, 20), 0, 0, 2, 0, 7, 0);
        dueSway(Scene.oneStands(7, 40, 40, 20, 20), 40, 40, 2, 0, 7, 2040);
    }

    private static void swayNever() {
        Check.sentence("to where .. ; NONE");
        StandingLine x = Scene.oneStands(0, 20, 20, 20, 20);
        dueSway(x, 20, 40, 1, NONE);
        dueSway(x, 20, 0, 0, NONE);
        dueSway(x, 0, 0, 0, NONE);
    }

    private static void swayWhereNobodyStands() {
        Check.sentence("to a point where nobody stands");
        StandingLine alone = Scene.oneStands(0, 20, 20, 20, 20);
        dueSway(alone, 30, 20, 1, 1, 0, 1021);
        alone.stand(1, 20, 21, 0);
        dueSway(alone, 30, 20, 1, 2, 0, 971);
    }

    private static void swayLeastPerson() {
        Check.sentence("the least such PERSON");
        StandingLine x = new StandingLine();
        x.stand(6, 10, 20, 0);
        x.stand(2, 30, 20, 1);
        dueSway(x, 20, 20, 1, 1, 2, 1521);
        dueSway(x, 20, 20, 0, 1, 2, 1519);
        dueSway(x, 20, 20, 2, 0, 2, 1520);
        StandingLine far = new StandingLine();
        far.stand(0, 0, 20, 0);
        far.stand(3, 20, 20, 1);
        dueSway(far, 20, 21, 2, 1, 3, 1021);
    }

    private static void swayLeastPoint() {
        Check.sentence("to where, the least of his (50 times x and y)");
        StandingLine x = new StandingLine();
        x.stand(1, 20, 21, 0);
        x.stand(0, 20, 20, 1);
        dueSway(x, 30, 20, 1, 2, 0, 971);
        dueSway(Scene.oneStands(4, 20, 20, 20, 20), 20, 22, 2, 2, 4, 1022);
    }

    private static void swayFarthest() {
        Check.sentence("the least number of steps (x and y)");
        dueSway(Scene.oneStands(3, 0, 0, 0, 0), 40, 40, 2, 80, 3, 2040);
        dueSway(Scene.oneStands(3, 40, 40, 0, 0), 0, 40, 2, 40, 3, 40);
        dueSway(Scene.oneStands(3, 40, 0, 0, 0), 0, 40, 2, 80, 3, 40);
    }

    private static void swayWithinTheLand() {
        Check.sentence("must be moved by, to a point (x 0 to 40, y 0 to 40)");
        dueSway(Scene.oneStands(0, 0, 24, 20, 20), 20, 22, 2, 22, 0, 1022);
        dueSway(Scene.oneStands(0, 40, 24, 20, 20), 20, 22, 2, 22, 0, 1022);
        dueSway(Scene.oneStands(0, 20, 0, 20, 20), 20, 0, 0, NONE);
        dueSway(Scene.oneStands(0, 20, 40, 20, 20), 20, 40, 1, NONE);
    }

    /** The pieces at A lie to the north of (15, 20), which the first is on, and of (15, 22), as the last does at first. */
    private static void swayOthersStanding() {
        Check.sentence("that one PERSON, the others standing, must be moved by");
        StandingLine x = new StandingLine();
        x.stand(1, 30, 20, 0);
        x.stand(0, 20, 30, 1);
        x.stand(2, 10, 25, 2);
        dueSway(x, 15, 20, 2, 0, 0, 1030);
        dueSway(x, 15, 22, 0, 0, 0, 1030);
        dueSway(x, 15, 10, 1, 0, 0, 1030);
        x.leave(2);
        x.stand(2, 10, 15, 2);
        dueSway(x, 15, 20, 2, 0, 0, 1030);
    }

    private static void swayPinchedNoMatter() {
        Check.sentence("(PINCHED or not is no matter.)");
        StandingLine x = new StandingLine();
        x.stand(0, 20, 20, 0);
        x.stand(1, 10, 20, 1);
        Check.due("south(1)", x.south(1), 1);
        dueSway(x, 15, 20, 2, 0, 0, 1020);
        x.set(2, 0);
        dueSway(Scene.text(x, "AxBx"), 15, 20, 2, 0, 0, 1020);
    }

    private static void dueFair(String why, StandingLine x, int difference, int step) {
        Check.due(why + ", fair(0)", x.fair(0), difference);
        Check.due(why + ", fair(1)", x.fair(1), step);
    }

    private static void fairWhat() {
        Check.sentence("FAIR: the difference (what = 0), the step (1). OUTSIDE.");
        Check.range("fair", 0, 1, OUTSIDE, what -> Scene.threeStand().fair(what));
        Check.range("fair of nobody", 0, 1, OUTSIDE, what -> new StandingLine().fair(what));
    }

    private static void fairWithoutAMinus() {
        Check.sentence("the difference (without a minus) / (twice the LAND is 3360)");
        dueFair("the south is larger", Scene.ends(21, 21), 168, 99);
        dueFair("the north is larger", Scene.ends(19, 19), 168, 99);
        dueFair("the south is all", Scene.ends(40, 40), 3360, 99);
        dueFair("the north is all", Scene.ends(0, 0), 3360, 99);
        dueFair("both alike", Scene.ends(0, 40), 0, 99);
    }

    private static void fairNoneAheadOfAll() {
        Check.sentence("the least of the best, but none (99) ahead of all");
        dueFair("east and west change nothing", Scene.oneStands(0, 20, 20, 20, 20), 0, 99);
        StandingLine x = Scene.ends(5, 10);
        x.stand(0, 8, 33, 0);
        x.stand(1, 9, 30, 1);
        Check.due("south(0)", x.south(0), 1685);
        dueFair("none as good as the step to the south, by 10", x, 10, 99);
        dueFair("a step is better", Scene.oneStands(0, 20, 20, 20, 22), 0, 2);
    }

    private static void fairLeastOfTheBest() {
        Check.sentence("the step: 10 times the PERSON and 0 to 3, the least of the best");
        StandingLine x = Scene.ends(18, 12);
        x.stand(0, 10, 30, 0);
        x.stand(1, 12, 25, 1);
        x.stand(2, 20, 20, 2);
        dueFair("north as good as east", x, 0, 10);
        StandingLine mirrored = Scene.threeStand();
        dueFair("the first as good as the last", mirrored, 118, 2);
        dueFair("the last PERSON, to the north", Scene.oneStands(7, 20, 20, 0, 20), 756, 70);
        dueFair("the last PERSON, to the east", Scene.oneStands(7, 19, 20, 15, 25), 0, 71);
        dueFair("the last PERSON, to the south", Scene.oneStands(7, 20, 20, 40, 20), 756, 72);
        dueFair("the last PERSON, to the west", Scene.oneStands(7, 21, 20, 25, 15), 0, 73);
    }

    private static void fairWithinTheLand() {
        Check.sentence("by one step of one PERSON: within the LAND");
        dueFair("not beyond the east end, by 1", Scene.oneStands(0, 40, 20, 20, 21), 2, 99);
        dueFair("not beyond the west end, by 1", Scene.oneStands(0, 0, 20, 21, 20), 2, 99);
        dueFair("not C beyond the south end, by 40, but A to the west, by 39", bent(40, 1, 0), 4, 3);
        dueFair("not C beyond the north end, by 40, but A to the west, by 39", bent(0, 39, 40), 4, 3);
    }

    /** East, back again, and east over C, who stands at the land's very end. */
    private static StandingLine bent(int far, int near, int end) {
        StandingLine x = Scene.ends(far, far);
        x.stand(0, 40, far, 0);
        x.stand(1, 0, near, 1);
        x.stand(2, 20, end, 2);
        x.stand(3, 40, near, 3);
        return x;
    }

    private static void fairNotOnAnother() {
        Check.sentence("by one step of one PERSON: not to where another one stands");
        StandingLine x = Scene.oneStands(3, 20, 20, 18, 20);
        dueFair("free", x, 0, 30);
        x.stand(4, 20, 21, 1);
        dueFair("taken", x, 0, 40);
    }

    private static void cedesAndTenThousand() {
        Check.sentence("by how much SOUTH is more if a PERSON dies, and 10000");
        Check.due("nothing", Scene.oneStands(0, 20, 20, 20, 20).cedes(0), 10000);
        Check.due("less", Scene.oneStands(0, 20, 30, 20, 20).cedes(0), 9580);
        Check.due("more", Scene.oneStands(0, 20, 0, 20, 20).cedes(0), 10840);
        Check.due("the least", Scene.oneStands(7, 40, 40, 0, 0).cedes(7), 10000 - 1680);
        Check.due("the greatest", Scene.oneStands(7, 0, 0, 40, 40).cedes(7), 10000 + 1680);
    }

    private static void cedesUnknown() {
        Check.sentence("CEDES, and 10000. UNKNOWN.");
        for (int beyond : Check.beyond(0, 7)) {
            Check.due("cedes(" + beyond + ")", Scene.eightStand().cedes(beyond), UNKNOWN);
        }
        StandingLine x = Scene.threeStand();
        for (int person = 3; person < 8; person++) {
            Check.due("cedes(" + person + ")", x.cedes(person), UNKNOWN);
        }
        x.leave(2);
        Check.due("who has left", x.cedes(2), UNKNOWN);
        Scene.text(x, "A>D");
        Check.due("an heir who is not there now", x.cedes(3), UNKNOWN);
    }

    private static void dueOrders(String why, StandingLine x, int count, int first) {
        Check.due(why + ", orders(0)", x.orders(0), count);
        Check.due(why + ", orders(1)", x.orders(1), first);
    }

    private static void ordersWhat() {
        Check.sentence("ORDERS: how many (what = 0), who (1; NONE). OUTSIDE.");
        Check.range("orders", 0, 1, OUTSIDE, what -> Scene.threeStand().orders(what));
    }

    private static void ordersOfNobody() {
        Check.sentence("nobody there: 1 order, NONE");
        StandingLine x = new StandingLine();
        dueOrders("no VILLAGES", x, 1, NONE);
        x.village(0, 20, 20);
        x.village(1, 0, 0);
        dueOrders("some VILLAGES", x, 1, NONE);
    }

    private static void ordersNone() {
        Check.sentence("NONE (0 orders");
        StandingLine x = Scene.oneStands(5, 20, 30, 20, 20);
        dueOrders("no VILLAGES", x, 1, 5);
        x.village(0, 20, 29);
        dueOrders("from south to north", x, 0, NONE);
        x.village(0, 20, 20);
        dueOrders("from south onto the LINE", x, 0, NONE);
        x.village(0, 20, 30);
        dueOrders("from the LINE to the north", x, 0, NONE);
        x.village(0, 20, 19);
        dueOrders("it stays", x, 1, 5);
        x.village(1, 20, 31);
        dueOrders("both stay", x, 1, 5);
        x.village(7, 20, 25);
        dueOrders("one of three does not", x, 0, NONE);
    }

    private static void ordersOfAllEight() {
        Check.sentence("in how many orders all PERSONS can die, one by one, till nobody stands");
        StandingLine x = Scene.eightStand();
        dueOrders("no VILLAGES", x, 40320, 0);
        x.village(0, 3, 20);
        dueOrders("on the LINE, and so it stays", x, 40320, 0);
        x.leave(0);
        dueOrders("seven", x, 5040, 1);
    }

    private static void ordersBehindEachDeath() {
        Check.sentence("so that behind each death each VILLAGE lies on the side that it does now");
        StandingLine x = new StandingLine();
        x.stand(5, 10, 40, 0);
        x.stand(1, 12, 0, 1);
        x.village(0, 20, 21);
        dueOrders("the greater must die first", x, 1, 5);
        StandingLine even = new StandingLine();
        even.stand(0, 19, 30, 0);
        even.stand(1, 21, 10, 1);
        even.village(0, 20, 20);
        dueOrders("on the LINE in the end, but not between", even, 0, NONE);
        StandingLine least = new StandingLine();
        least.stand(0, 10, 40, 0);
        least.stand(1, 12, 0, 1);
        least.village(0, 20, 21);
        dueOrders("the least must die first", least, 1, 0);
    }

    private static void crownsTurns() {
        Check.sentence("by turns, n of them (0 to 2), the south's first");
        Check.range("crowns", 0, 2, OUTSIDE, n -> Scene.threeStand().crowns(n));
        Check.due("no turn", Scene.threeStand().crowns(0), 1760);
        Check.due("the south's", Scene.threeStand().crowns(1), 1781);
        Check.due("the north's behind it", Scene.threeStand().crowns(2), 1760);
    }

    private static void crownsOfNobody() {
        Check.sentence("each has one PERSON step once, if that can be, or none");
        for (int n = 0; n <= 2; n++) {
            Check.due("crowns(" + n + ") of nobody", new StandingLine().crowns(n), 1680);
        }
    }

    private static void crownsReachNoMatter() {
        Check.sentence("(REACH is no matter)");
        StandingLine x = Scene.threeStand();
        Scene.text(x, "As1An1");
        x.done();
        x.set(2, 0);
        Check.due("crowns(1)", x.crowns(1), 1781);
        Check.due("crowns(2)", x.crowns(2), 1760);
    }

    private static void crownsWithinTheLand() {
        Check.sentence("if that can be: within the LAND");
        Check.due("the north end", Scene.oneStands(0, 20, 40, 20, 20).crowns(1), 2520);
        Check.due("the north end, and back", Scene.oneStands(0, 20, 40, 20, 20).crowns(2), 2478);
        Check.due("the south end", Scene.oneStands(0, 20, 0, 20, 20).crowns(2), 840);
        Check.due("the east end", Scene.oneStands(0, 40, 40, 40, 0).crowns(1), 3320);
        Check.due("one step from the east end", Scene.oneStands(0, 39, 40, 40, 0).crowns(1), 3320);
        Check.due("the west end", Scene.oneStands(0, 0, 40, 0, 40).crowns(1), 3320);
        Check.due("one step from the west end", Scene.oneStands(0, 1, 40, 0, 40).crowns(1), 3320);
    }

    private static void crownsNotOnAnother() {
        Check.sentence("if that can be: not to where another one stands");
        StandingLine x = new StandingLine();
        x.stand(0, 20, 39, 0);
        x.stand(1, 20, 40, 1);
        Check.due("south(0)", x.south(0), 21 * 59 + 21 * 60);
        Check.due("not A to the north, by 21, but to the west, by 20", x.crowns(1), 21 * 59 + 21 * 60 + 20);
    }

    private static void crownsOrNone() {
        Check.sentence("or none");
        StandingLine south = Scene.oneStands(0, 0, 40, 0, 40);
        Check.due("each step would be less", south.crowns(1), 3320);
        Check.due("the north has his step", south.crowns(2), 3278);
        StandingLine north = Scene.oneStands(0, 40, 0, 0, 40);
        Check.due("each step would be more", north.crowns(2), 40);
        Check.due("the south has his step", north.crowns(1), 82);
    }
}
