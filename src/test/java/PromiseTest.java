/** For each promise: ordinary inputs, the edges that the document names, and wrong inputs. */
public final class PromiseTest {
    private static final int UNKNOWN = -1, OUTSIDE = -2, STATE = -3, FULL = -4, NO = -5, NONE = -6;
    private static final int LOW = Integer.MIN_VALUE, HIGH = Integer.MAX_VALUE;

    private static void due(String call, long got, long want) {
        Check.due(call, got, want);
    }

    private static void text(StandingLine x, String text) {
        Scene.text(x, text);
        due("8 the pad holds " + text, x.told(0), text.length());
    }

    private static StandingLine threeStand() {
        return Scene.threeStand();
    }

    public static void main(String[] args) {
        newObject();
        stand();
        leave();
        set();
        village();
        raze();
        sayAndWipe();
        fault();
        judge();
        behind();
        side();
        south();
        pinched();
        lies();
        done();
        sway();
        fair();
        cedes();
        orders();
        seenAndForget();
        moved();
        ask();
        crowns();
        goat();
        year();
        imageAndRestore();
        told();
        Check.end("PromiseTest");
    }

    private static void newObject() {
        StandingLine x = new StandingLine();
        for (int what = 0; what <= 6; what++) {
            due("1 told " + what, x.told(what), what >= 2 && what <= 4 ? 20 : 0);
        }
        for (int i = 0; i < 8; i++) {
            due("1 place", x.told(10 + i), NONE);
            due("1 person", x.told(20 + 10 * i), OUTSIDE);
            due("1 village", x.told(100 + i), OUTSIDE);
        }
        due("1 restore", x.restore(0), STATE);
        due("1 south", x.south(0), 1680);
    }

    private static void stand() {
        StandingLine x = new StandingLine();
        due("2 unknown", x.stand(8, 41, 0, 9), UNKNOWN);
        due("2 unknown", x.stand(-1, 0, 0, 0), UNKNOWN);
        due("2 unknown", x.stand(LOW, 0, 0, 0), UNKNOWN);
        due("2 outside x", x.stand(0, -1, 0, 0), OUTSIDE);
        due("2 outside x", x.stand(0, 41, 0, 0), OUTSIDE);
        due("2 outside y", x.stand(0, 0, 41, 0), OUTSIDE);
        due("2 outside y", x.stand(0, 0, HIGH, 0), OUTSIDE);
        due("2 outside place", x.stand(0, 0, 0, 1), OUTSIDE);
        due("2 outside place", x.stand(0, 0, 0, -1), OUTSIDE);
        due("2 first", x.stand(3, 0, 0, 0), 1);
        due("2 ahead", x.stand(4, 40, 40, 0), 2);
        due("2 between", x.stand(5, 7, 8, 1), 3);
        due("2 row 0", x.told(10), 4);
        due("2 row 1", x.told(11), 5);
        due("2 row 2", x.told(12), 3);
        due("2 there", x.stand(5, 1, 1, 0), STATE);
        due("2 taken", x.stand(6, 7, 8, 0), STATE);
        due("2 outside first", x.stand(5, 7, 8, 4), OUTSIDE);
        due("2 nothing changed", x.told(1), 56);
        for (int i = 0; i < 3; i++) {
            due("2 more", x.stand(i, 20, i, 3 + i), 4 + i);
        }
        due("2 more", x.stand(6, 20, 6, 6), 7);
        due("2 more", x.stand(7, 20, 7, 7), 8);
        due("2 all there", x.stand(7, 30, 7, 8), STATE);
        due("2 outside", x.stand(7, 30, 7, 9), OUTSIDE);
        due("2 last", x.told(17), 7);
    }

    private static void leave() {
        StandingLine x = threeStand();
        due("3 unknown", x.leave(3), UNKNOWN);
        due("3 unknown", x.leave(-1), UNKNOWN);
        due("3 unknown", x.leave(HIGH), UNKNOWN);
        due("3 leaves", x.leave(2), 2);
        due("3 again", x.leave(2), UNKNOWN);
        due("3 row", x.told(11), 1);
        due("3 row", x.told(12), NONE);
        due("3 his point is free", x.stand(5, 20, 24, 0), 3);
        text(x, "An5");
        x.done();
        due("3 walked", x.told(22), 5);
        x.leave(0);
        x.stand(0, 1, 1, 0);
        due("3 who comes anew has not walked", x.told(22), 0);
    }

    private static void set() {
        StandingLine x = new StandingLine();
        due("4 west", x.set(0, 40), 20);
        due("4 west", x.set(0, 0), 40);
        due("4 east", x.set(1, 7), 20);
        due("4 reach", x.set(2, 99), 20);
        due("4 reach", x.set(2, 0), 99);
        due("4 outside", x.set(3, 0), OUTSIDE);
        due("4 outside", x.set(-1, 0), OUTSIDE);
        due("4 outside", x.set(0, 41), OUTSIDE);
        due("4 outside", x.set(1, 41), OUTSIDE);
        due("4 outside", x.set(1, -1), OUTSIDE);
        due("4 outside", x.set(2, 100), OUTSIDE);
        due("4 outside", x.set(2, -1), OUTSIDE);
        due("4 kept", x.told(2) * 10000 + x.told(3) * 100 + x.told(4), 700);
    }

    private static void village() {
        StandingLine x = new StandingLine();
        due("5 unknown", x.village(8, 41, 0), UNKNOWN);
        due("5 unknown", x.village(-1, 0, 0), UNKNOWN);
        due("5 outside", x.village(0, 41, 0), OUTSIDE);
        due("5 outside", x.village(0, 0, -1), OUTSIDE);
        due("5 one", x.village(7, 40, 0), 1);
        due("5 two on a point", x.village(0, 40, 0), 2);
        due("5 lies elsewhere", x.village(7, 0, 40), 2);
        due("5 where", x.told(107), 40);
        due("5 bits", x.told(5), 129);
    }

    private static void raze() {
        StandingLine x = new StandingLine();
        x.village(7, 1, 1);
        x.village(2, 1, 1);
        due("6 unknown", x.raze(0), UNKNOWN);
        due("6 unknown", x.raze(8), UNKNOWN);
        due("6 unknown", x.raze(-25), UNKNOWN);
        due("6 unknown", x.raze(39), UNKNOWN);
        due("6 one left", x.raze(7), 1);
        due("6 none left", x.raze(2), 0);
        due("6 again", x.raze(2), UNKNOWN);
    }

    private static void sayAndWipe() {
        StandingLine x = new StandingLine();
        due("7 outside", x.say(32), OUTSIDE);
        due("7 outside", x.say(127), OUTSIDE);
        due("7 outside", x.say(LOW), OUTSIDE);
        due("7 least", x.say(33), 1);
        due("7 greatest", x.say(126), 2);
        for (int i = 3; i <= 60; i++) {
            due("7 more", x.say('.'), i);
        }
        due("7 full", x.say('.'), FULL);
        due("7 outside first", x.say(0), OUTSIDE);
        due("8 wipe", x.wipe(), 60);
        due("8 wipe", x.wipe(), 0);
        due("8 anew", x.say('.'), 1);
    }

    private static void dueFault(String text, int want) {
        StandingLine x = new StandingLine();
        text(x, text);
        due("9 fault of " + text, x.fault(), want);
        due("10 judge of " + text, x.judge(0) == NO ? 1 : 0, want == NONE ? 0 : 1);
    }

    private static void fault() {
        dueFault("", NONE);
        dueFault(".", NONE);
        dueFault("An1", NONE);
        dueFault("Hw9Ae1Bs2.Cx", NONE);
        dueFault("A>A", NONE);
        dueFault("A>H.", NONE);
        dueFault("A", 1);
        dueFault("An", 2);
        dueFault("A>", 2);
        dueFault("An0", 2);
        dueFault("An1I", 3);
        dueFault("@x", 0);
        dueFault("a", 0);
        dueFault("A>I", 2);
        dueFault("A>@", 2);
        dueFault("AX", 1);
        dueFault("Ax.n", 3);
        dueFault("1", 0);
        dueFault("..x!", 2);
        dueFault("An:", 2);
        dueFault(".".repeat(59) + "A", 60);
    }

    private static void dueJudge(StandingLine x, String text, int act, int why, int steps) {
        text(x, text);
        due("10 act of " + text, x.judge(0), act);
        due("10 why of " + text, x.judge(1), why);
        due("10 steps of " + text, x.judge(2), steps);
    }

    private static void judge() {
        StandingLine x = threeStand();
        due("10 outside", x.judge(3), OUTSIDE);
        due("10 outside", x.judge(-1), OUTSIDE);
        dueJudge(x, "", NONE, NONE, 0);
        dueJudge(x, "An9Aw9.Bs3Cx", NONE, NONE, 21);
        dueJudge(x, "An9Ae9An2", NONE, NONE, 20);
        dueJudge(x, "An9Ae9An3", 2, 4, STATE);
        dueJudge(x, "An9Ae9.An3", NONE, NONE, 21);
        dueJudge(x, "Dn1", 0, 1, STATE);
        dueJudge(x, "Dx", 0, 1, STATE);
        dueJudge(x, "D>D", 0, 1, STATE);
        dueJudge(x, "D>A", 0, 1, STATE);
        dueJudge(x, ".A>A", 1, 5, STATE);
        dueJudge(x, "A>C", 0, 5, STATE);
        dueJudge(x, "CxA>C", NONE, NONE, 0);
        dueJudge(x, "AxAx", 1, 1, STATE);
        dueJudge(x, "A>DAx", 1, 1, STATE);
        dueJudge(x, "Aw9Aw2", 1, 2, STATE);
        dueJudge(x, "Aw9Aw1", NONE, NONE, 10);
        dueJudge(x, "Cs4Ae9Ae1", 2, 3, STATE);
        dueJudge(x, "Cs4Cx.Ae9Ae1", NONE, NONE, 14);
        x.set(2, 10);
        dueJudge(x, "Aw9Aw2", 1, 2, STATE);
        dueJudge(x, "Cs4Ae9Ae2", 2, 4, STATE);
        dueJudge(x, "An9A>DDn2", 2, 4, STATE);
        x.set(2, 9);
        dueJudge(x, "Cs4Ae9Ae1", 2, 3, STATE);
        text(x, "DxA");
        due("10 outside first", x.judge(9), OUTSIDE);
        due("10 fault first", x.judge(2), NO);
        due("10 fault first", x.judge(1), NO);
    }

    private static void behind() {
        StandingLine x = threeStand();
        due("11 x", x.behind(2, 0), 20);
        due("11 y", x.behind(2, 1), 24);
        due("11 walked", x.behind(2, 2), 0);
        due("11 place", x.behind(2, 3), 1);
        due("11 outside first", x.behind(9, 4), OUTSIDE);
        due("11 outside", x.behind(0, -1), OUTSIDE);
        due("11 unknown", x.behind(3, 0), UNKNOWN);
        due("11 unknown", x.behind(8, 0), UNKNOWN);
        due("11 unknown", x.behind(-1, 0), UNKNOWN);
        text(x, "Ae3Cn1A>FBxFs2");
        due("11 heir x", x.behind(5, 0), 13);
        due("11 heir y", x.behind(5, 1), 18);
        due("11 heir walked", x.behind(5, 2), 5);
        due("11 heir place", x.behind(5, 3), 0);
        due("11 no more", x.behind(0, 0), UNKNOWN);
        due("11 dead", x.behind(1, 3), UNKNOWN);
        due("11 walked", x.behind(2, 2), 1);
        text(x, "Dx");
        due("11 state ahead of unknown", x.behind(3, 0), STATE);
        text(x, "D");
        due("11 no ahead of unknown", x.behind(3, 0), NO);
        due("11 as it was", x.told(20), 10);
    }

    private static void side() {
        StandingLine x = new StandingLine();
        due("12 on", x.side(0, 20), 2);
        due("12 on", x.side(40, 20), 2);
        due("12 north", x.side(40, 21), 0);
        due("12 south", x.side(0, 19), 1);
        x.stand(0, 20, 30, 0);
        x.stand(1, 20, 10, 1);
        due("12 on the one that goes straight south", x.side(20, 11), 2);
        due("12 on its end", x.side(20, 10), 2);
        due("12 below it: by the greater x of the one, the lesser of the other", x.side(20, 9), 1);
        due("12 above it", x.side(20, 31), 0);
        x.stand(2, 10, 10, 2);
        due("12 three above", x.side(15, 5), 1);
        due("12 two above", x.side(15, 11), 0);
        due("12 between", x.side(15, 15), 1);
        due("12 at the lesser x", x.side(10, 5), 1);
        due("12 at the greater x", x.side(20, 5), 1);
        due("12 outside", x.side(-1, 20), OUTSIDE);
        due("12 outside", x.side(0, 41), OUTSIDE);
        text(x, "AxBxCx");
        due("12 behind", x.side(15, 20), 2);
        text(x, "AxBxCxAx");
        due("12 state", x.side(15, 20), STATE);
        due("12 outside first", x.side(41, 20), OUTSIDE);
        x.say('A');
        due("12 no", x.side(15, 20), NO);
    }

    private static void south() {
        StandingLine x = threeStand();
        due("13 south", x.south(0), 1760);
        due("13 outside", x.south(2), OUTSIDE);
        due("13 outside", x.south(-1), OUTSIDE);
        text(x, "Cx");
        due("13 behind", x.south(0), 1680);
        text(x, "Hx");
        due("13 state", x.south(0), STATE);
        due("13 state", x.south(1), STATE);
        due("13 outside first", x.south(5), OUTSIDE);
        text(x, "?");
        due("13 no", x.south(1), NO);
        StandingLine y = new StandingLine();
        y.set(0, 0);
        y.set(1, 0);
        y.stand(0, 40, 0, 0);
        y.stand(1, 40, 40, 1);
        y.stand(2, 0, 40, 2);
        y.stand(3, 0, 0, 3);
        due("13 less than nothing", y.south(0), -3200);
        due("13 pinched", y.south(1), 3);
    }

    private static void pinched() {
        StandingLine x = new StandingLine();
        x.stand(0, 20, 20, 0);
        due("13 straight on is no pinch", x.south(1), NONE);
        x.stand(1, 10, 20, 1);
        due("13 back on itself", x.south(1), 1);
        x.leave(1);
        x.stand(1, 20, 30, 1);
        x.stand(2, 30, 30, 2);
        x.stand(3, 30, 10, 3);
        due("13 none", x.south(1), NONE);
        x.stand(4, 10, 10, 4);
        due("13 none yet", x.south(1), 35);
        x.set(1, 0);
        due("13 the last from the south", x.south(1), NONE);
        text(x, "En9");
        due("13 an end on another", x.south(1), NONE);
        text(x, "En9En1");
        due("13 an end on another", x.south(1), 4);
        text(x, "En9En2");
        due("13 a crossing, the lesser pair first", x.south(1), 4);
        text(x, "DxEe9Ee1.En9En6");
        due("13 an end on another, further on", x.south(1), 13);
    }

    private static void lies() {
        StandingLine x = threeStand();
        x.village(0, 20, 21);
        x.village(3, 20, 24);
        x.village(7, 0, 40);
        due("14 north", x.lies(0), 128);
        due("14 south", x.lies(1), 1);
        due("14 on", x.lies(2), 8);
        due("14 outside", x.lies(3), OUTSIDE);
        due("14 outside", x.lies(-1), OUTSIDE);
        text(x, "Cs9");
        due("14 behind", x.lies(0), 137);
        text(x, "Hx");
        due("14 state", x.lies(0), STATE);
        due("14 outside first", x.lies(3), OUTSIDE);
        x.say('H');
        due("14 no", x.lies(0), NO);
    }

    private static void done() {
        StandingLine x = threeStand();
        text(x, "An9.Ae2Bx");
        due("15 done", x.done(), 4);
        due("15 pad", x.told(0), 0);
        due("15 x", x.told(20), 12);
        due("15 y", x.told(21), 29);
        due("15 walked", x.told(22), 2);
        due("15 persons", x.told(1), 5);
        due("15 nothing", x.done(), 0);
        text(x, "An9An9");
        due("15 state", x.done(), STATE);
        due("15 as it was", x.told(0), 6);
        due("15 as it was", x.told(21), 29);
        x.say('A');
        due("15 no", x.done(), NO);
    }

    private static void sway() {
        StandingLine x = threeStand();
        due("16 none to move", new StandingLine().sway(0, 0, 1, 0), NONE);
        due("16 so already", x.sway(0, 0, 1, 0), 0);
        due("16 so already, by the least", x.sway(0, 0, 1, 1), 0);
        due("16 so already, where he stands", x.sway(0, 0, 1, 2), 520);
        due("16 steps", x.sway(20, 21, 0, 0), 4);
        due("16 who", x.sway(20, 21, 0, 1), 2);
        due("16 where", x.sway(20, 21, 0, 2), 971);
        due("16 by one", x.sway(10, 21, 2, 0), 1);
        due("16 by one", x.sway(10, 21, 2, 2), 521);
        due("16 never", x.sway(0, 0, 0, 0), NONE);
        due("16 never", x.sway(0, 0, 0, 2), NONE);
        x.stand(3, 10, 21, 0);
        x.set(2, 0);
        due("16 not where another stands", x.sway(11, 22, 2, 1), 3);
        due("16 outside", x.sway(41, 0, 0, 0), OUTSIDE);
        due("16 outside", x.sway(0, -1, 0, 0), OUTSIDE);
        due("16 outside", x.sway(0, 0, 3, 0), OUTSIDE);
        due("16 outside", x.sway(0, 0, -1, 0), OUTSIDE);
        due("16 outside", x.sway(0, 0, 0, 3), OUTSIDE);
        due("16 outside", x.sway(0, 0, 0, -1), OUTSIDE);
        text(x, "AxBxCxDx");
        due("16 as things are now", x.sway(0, 0, 1, 1), 0);
    }

    private static void fair() {
        StandingLine x = threeStand();
        due("17 difference", x.fair(0), 118);
        due("17 step", x.fair(1), 2);
        due("17 outside", x.fair(2), OUTSIDE);
        due("17 outside", x.fair(-1), OUTSIDE);
        due("17 none is best", new StandingLine().fair(1), 99);
        StandingLine y = new StandingLine();
        y.stand(3, 20, 20, 0);
        due("17 none ahead of all", y.fair(1), 99);
        due("17 none ahead of all", y.fair(0), 0);
        y.set(0, 18);
        due("17 a step", y.fair(1), 30);
        due("17 reach is not told of here", y.set(2, 0), 20);
        due("17 a step", y.fair(1), 30);
        y.stand(4, 20, 21, 1);
        due("17 not where another stands", y.fair(1) != 30 ? 1 : 0, 1);
        StandingLine edge = new StandingLine();
        edge.set(0, 40);
        edge.set(1, 40);
        edge.stand(0, 0, 0, 0);
        edge.stand(1, 40, 0, 1);
        due("17 within the land", edge.fair(0), 3360 - 2 * 121);
        due("17 within the land", edge.fair(1), 0);
    }

    private static void cedes() {
        StandingLine x = threeStand();
        due("18 less", x.cedes(2), 9920);
        due("18 more", x.cedes(0), 10044);
        due("18 unknown", x.cedes(3), UNKNOWN);
        due("18 unknown", x.cedes(8), UNKNOWN);
        due("18 unknown", x.cedes(-1), UNKNOWN);
        due("18 as it was", x.told(1), 7);
        text(x, "Cx");
        due("18 as things are now", x.cedes(2), 9920);
    }

    private static void orders() {
        StandingLine x = threeStand();
        due("19 all", x.orders(0), 6);
        due("19 all", x.orders(1), 0);
        x.village(0, 20, 22);
        due("19 none", x.orders(0), 0);
        due("19 none", x.orders(1), NONE);
        x.village(0, 20, 10);
        x.stand(3, 20, 20, 0);
        due("19 four", x.orders(0), 24);
        x.village(0, 20, 24);
        due("19 on the line", x.orders(0), 0);
        due("19 nobody", new StandingLine().orders(0), 1);
        due("19 nobody", new StandingLine().orders(1), NONE);
        due("19 outside", x.orders(2), OUTSIDE);
        due("19 outside", x.orders(-1), OUTSIDE);
        StandingLine y = new StandingLine();
        y.stand(5, 10, 40, 0);
        y.stand(1, 12, 0, 1);
        y.village(0, 20, 21);
        due("19 only one", y.orders(0), 1);
        due("19 not the least first", y.orders(1), 5);
        StandingLine eight = new StandingLine();
        for (int i = 0; i < 8; i++) {
            eight.stand(i, 4 * i, 20, i);
        }
        eight.village(1, 3, 20);
        due("19 eight", eight.orders(0), 40320);
    }

    private static void seenAndForget() {
        StandingLine x = new StandingLine();
        due("20 outside", x.seen(41, 0, 0), OUTSIDE);
        due("20 outside", x.seen(0, -1, 0), OUTSIDE);
        due("20 outside", x.seen(0, 0, 3), OUTSIDE);
        due("20 outside", x.seen(0, 0, -1), OUTSIDE);
        for (int i = 1; i <= 8; i++) {
            due("20 more", x.seen(0, 0, 1), i);
        }
        due("20 full", x.seen(0, 0, 1), FULL);
        due("20 outside first", x.seen(0, 0, 3), OUTSIDE);
        due("21 forget", x.forget(), 8);
        due("21 forget", x.forget(), 0);
        due("21 anew", x.seen(0, 0, 1), 1);
    }

    private static void moved() {
        StandingLine x = new StandingLine();
        due("22 nobody's", x.moved(0), 1);
        due("22 nobody's", x.moved(1), 0);
        x.stand(2, 20, 20, 0);
        due("22 a whole ring", x.moved(0), 25);
        due("22 a whole ring", x.moved(1), 4);
        x.stand(5, 20, 21, 1);
        due("22 not on another", x.moved(0), 47);
        due("22 both", x.moved(1), 36);
        x.leave(5);
        x.stand(5, 0, 0, 0);
        due("22 in a corner", x.moved(0), 34);
        x.leave(5);
        x.seen(20, 23, 2);
        due("22 just one", x.moved(0), 1);
        due("22 just one", x.moved(1), 4);
        x.seen(20, 23, 0);
        due("22 none", x.moved(0), 0);
        due("22 none", x.moved(1), 0);
        x.forget();
        x.seen(5, 20, 2);
        due("22 those that keep the west piece", x.moved(0), 7);
        due("22 outside", x.moved(2), OUTSIDE);
        due("22 outside", x.moved(-1), OUTSIDE);
    }

    private static void ask() {
        StandingLine x = new StandingLine();
        due("23 no villages", x.ask(0), NONE);
        due("23 no villages", x.ask(1), NONE);
        x.stand(2, 20, 20, 0);
        x.village(1, 20, 40);
        x.village(6, 20, 20);
        due("23 the one that parts them", x.ask(0), 6);
        due("23 how many", x.ask(1), 9);
        x.village(2, 20, 20);
        due("23 the least", x.ask(0), 2);
        x.seen(20, 40, 1);
        due("23 no moves", x.ask(0), NONE);
        due("23 no moves", x.ask(1), NONE);
        due("23 outside", x.ask(2), OUTSIDE);
        due("23 outside", x.ask(-1), OUTSIDE);
    }

    private static void crowns() {
        StandingLine x = threeStand();
        due("24 none", x.crowns(0), 1760);
        due("24 the south", x.crowns(1), 1781);
        due("24 both", x.crowns(2), 1760);
        due("24 outside", x.crowns(3), OUTSIDE);
        due("24 outside", x.crowns(-1), OUTSIDE);
        x.set(2, 0);
        due("24 reach is no matter", x.crowns(1), 1781);
        StandingLine edge = new StandingLine();
        edge.stand(0, 20, 40, 0);
        due("24 the land's end", edge.crowns(1), 2520);
        due("24 the north back", edge.crowns(2), 2478);
        due("24 as it was", edge.told(21), 40);
    }

    private static void goat() {
        StandingLine x = new StandingLine();
        long gone = -1000000000000000002L;
        due("25 outside", x.goat(41, 0, 0, 0, 0), gone);
        due("25 outside", x.goat(0, -1, 0, 0, 0), gone);
        due("25 outside", x.goat(0, 0, 7, 0, 0), gone);
        due("25 outside", x.goat(0, 0, -1, 0, 0), gone);
        due("25 outside", x.goat(0, 0, 0, 3, 0), gone);
        due("25 outside", x.goat(0, 0, 0, 0, 2), gone);
        due("25 outside", x.goat(0, 0, 0, 0, -1), gone);
        due("25 no step", x.goat(5, 20, 0, 2, 0), 1);
        due("25 no step", x.goat(5, 20, 0, 2, 1), 1);
        due("25 never", x.goat(5, 20, 0, 1, 0), 0);
        due("25 never", x.goat(5, 20, 0, 1, 1), 1);
        due("25 six steps", x.goat(20, 20, 6, 2, 0), 231);
        due("25 six steps", x.goat(20, 20, 6, 2, 1), 1024);
        due("25 six steps", x.goat(20, 20, 6, 0, 0), 793);
        due("25 six steps", x.goat(20, 20, 6, 1, 1), 2048);
        due("25 two steps", x.goat(5, 20, 2, 2, 0), 3);
        due("25 two steps", x.goat(5, 20, 2, 2, 1), 8);
        x.set(0, 0);
        x.set(1, 0);
        due("25 at the land's end it stays", x.goat(0, 0, 1, 2, 0), 3);
        due("25 at the land's end it stays", x.goat(0, 0, 1, 2, 1), 4);
        due("25 at the land's end it stays", x.goat(0, 0, 2, 2, 0), 5);
        due("25 at the land's end it stays", x.goat(0, 0, 2, 2, 1), 8);
    }

    private static void year() {
        StandingLine x = new StandingLine();
        due("26 outside", x.year(-1, 1, 0), OUTSIDE);
        due("26 outside", x.year(10000, 1, 0), OUTSIDE);
        due("26 outside", x.year(0, 0, 0), OUTSIDE);
        due("26 outside", x.year(0, 100, 0), OUTSIDE);
        due("26 outside", x.year(0, 1, 3), OUTSIDE);
        due("26 outside", x.year(0, 1, -1), OUTSIDE);
        due("26 nobody walks", x.year(9999, 99, 1), 0);
        due("26 no pinch", x.year(9999, 99, 2), 0);
        // 74: person 2, by 8 cut 9, so to the east; by 32 cut 2, so three steps.
        x.stand(2, 20, 30, 0);
        due("26 steps", x.year(0, 1, 1), 3);
        due("26 south", x.year(0, 1, 0), 24 * 50 + 18 * 50);
        due("26 nothing done", x.told(40), 20);
        x.set(2, 2);
        due("26 too far", x.year(0, 1, 1), 0);
        x.set(2, 3);
        due("26 just so far", x.year(0, 1, 1), 3);
        x.stand(4, 23, 30, 0);
        due("26 taken", x.year(0, 1, 1), 0);
        due("26 pinched", x.year(0, 1, 2), 1);
    }

    private static void imageAndRestore() {
        StandingLine x = threeStand();
        due("27 outside", x.image(2), OUTSIDE);
        due("27 outside", x.image(-1), OUTSIDE);
        due("28 outside", x.restore(2), OUTSIDE);
        due("28 outside", x.restore(-1), OUTSIDE);
        due("28 not kept", x.restore(1), STATE);
        text(x, "An4");
        x.done();
        x.village(4, 5, 6);
        x.seen(1, 2, 0);
        x.set(0, 1);
        x.set(1, 2);
        x.set(2, 3);
        text(x, "Ax");
        due("27 kept", x.image(1), 1);
        x.leave(2);
        text(x, "Bx.");
        x.village(4, 7, 7);
        x.village(5, 7, 7);
        x.forget();
        x.seen(3, 3, 2);
        x.seen(3, 3, 2);
        x.set(0, 9);
        x.set(1, 9);
        x.set(2, 9);
        due("28 not kept", x.restore(0), STATE);
        due("28 restored", x.restore(1), 1);
        due("28 the pad stays", x.told(0), 3);
        x.wipe();
        due("28 persons", x.told(1), 7);
        due("28 row", x.told(11), 2);
        due("28 walked", x.told(22), 4);
        due("28 village", x.told(104), 256);
        due("28 villages", x.told(5), 16);
        due("28 sights", x.told(6), 1);
        due("28 ends", x.told(2) * 100 + x.told(3) * 10 + x.told(4), 123);
        due("28 the sight itself", x.moved(0), x.side(1, 2) == 0 ? x.moved(0) : 0);
        x.leave(0);
        due("28 again", x.restore(1), 1);
        due("28 again", x.told(1), 7);
        x.leave(0);
        due("27 anew", x.image(1), 1);
        x.leave(1);
        x.restore(1);
        due("28 the newer", x.told(1), 6);
    }

    private static void told() {
        StandingLine x = threeStand();
        x.village(7, 40, 40);
        x.say('.');
        x.seen(0, 0, 0);
        due("29 signs", x.told(0), 1);
        due("29 persons", x.told(1), 7);
        due("29 villages", x.told(5), 128);
        due("29 sights", x.told(6), 1);
        for (int what = 7; what < 10; what++) {
            due("29 outside", x.told(what), OUTSIDE);
        }
        due("29 who", x.told(12), 1);
        due("29 nobody", x.told(13), NONE);
        due("29 nobody", x.told(17), NONE);
        due("29 outside", x.told(18), OUTSIDE);
        due("29 outside", x.told(19), OUTSIDE);
        due("29 x", x.told(40), 20);
        due("29 y", x.told(41), 24);
        due("29 walked", x.told(42), 0);
        due("29 outside", x.told(43), OUTSIDE);
        due("29 outside", x.told(49), OUTSIDE);
        due("29 not there", x.told(50), OUTSIDE);
        due("29 not there", x.told(92), OUTSIDE);
        due("29 village", x.told(107), 2040);
        due("29 none", x.told(106), OUTSIDE);
        due("29 outside", x.told(108), OUTSIDE);
        due("29 outside", x.told(-1), OUTSIDE);
        due("29 outside", x.told(LOW), OUTSIDE);
        due("29 outside", x.told(HIGH), OUTSIDE);
    }
}
