import java.util.function.Supplier;
import java.util.function.ToLongFunction;

/**
 * Each refusal that the document names, in the order in which it is chosen: the call answers so, answers so again,
 * and all that can be seen of the object and of its images is as if it had not been called.
 */
public final class RefusedTest {
    private static final int UNKNOWN = -1, OUTSIDE = -2, STATE = -3, FULL = -4, NO = -5;
    private static final long GONE_OUTSIDE = -1000000000000000002L;

    public static void main(String[] args) {
        standRefused();
        leaveAndSetRefused();
        villagesRefused();
        sayRefused();
        judgeRefused();
        behindRefused();
        sidesRefused();
        southAndLiesRefused();
        doneRefused();
        stepsRefused();
        sightsRefused();
        chanceRefused();
        imagesRefused();
        asksChangeNothing();
        nowWhateverThePadHolds();
        Check.end("RefusedTest");
    }

    private static void refused(String call, long want, ToLongFunction<StandingLine> answer) {
        refused(call, want, Scene::busy, answer);
    }

    private static void refused(String call, long want, Supplier<StandingLine> scene,
            ToLongFunction<StandingLine> answer) {
        StandingLine called = scene.get();
        StandingLine uncalled = scene.get();
        Check.due(call, answer.applyAsLong(called), want);
        Check.due(call + ", again", answer.applyAsLong(called), want);
        Check.holds(call + " changes nothing", Scene.lookAt(called).equals(Scene.lookAt(uncalled)));
        for (int k = 0; k <= 1; k++) {
            Check.due(call + ", then restore(" + k + ")", called.restore(k), uncalled.restore(k));
            Check.holds(call + " changes no image", Scene.lookAt(called).equals(Scene.lookAt(uncalled)));
        }
    }

    /** The busy scene with another text: behind a fault, or with an act that can not be. */
    private static Supplier<StandingLine> with(String text) {
        return () -> Scene.text(Scene.busy(), text);
    }

    private static void standRefused() {
        Check.sentence("stand: UNKNOWN: the number; OUTSIDE: x, y, the place; STATE: he is there already, or another one stands there");
        refused("the number, and all else wrong", UNKNOWN, x -> x.stand(8, 41, -1, 9));
        refused("the number below", UNKNOWN, x -> x.stand(-1, 20, 25, 0));
        refused("x, and he is there", OUTSIDE, x -> x.stand(0, 41, 5, 0));
        refused("y, and he is there", OUTSIDE, x -> x.stand(0, 5, -1, 0));
        refused("the place, and he is there where another is", OUTSIDE, x -> x.stand(0, 30, 20, 5));
        refused("the place below", OUTSIDE, x -> x.stand(3, 30, 21, -1));
        refused("the place beyond", OUTSIDE, x -> x.stand(3, 30, 21, 5));
        refused("he is there", STATE, x -> x.stand(6, 5, 5, 4));
        refused("another one stands there", STATE, x -> x.stand(3, 30, 20, 4));
    }

    private static void leaveAndSetRefused() {
        Check.sentence("leave: UNKNOWN: he was not. / set: OUTSIDE.");
        refused("leave of one who is not there", UNKNOWN, x -> x.leave(3));
        refused("leave of no such number", UNKNOWN, x -> x.leave(8));
        refused("set of no such", OUTSIDE, x -> x.set(3, 5));
        refused("set below", OUTSIDE, x -> x.set(-1, 5));
        for (int which = 0; which <= 2; which++) {
            int told = which;
            refused("set(" + which + ") too small", OUTSIDE, x -> x.set(told, -1));
            refused("set(" + which + ") too large", OUTSIDE, x -> x.set(told, told == 2 ? 100 : 41));
        }
    }

    private static void villagesRefused() {
        Check.sentence("village: UNKNOWN; OUTSIDE. / raze: UNKNOWN: it was not.");
        refused("the number, and all else wrong", UNKNOWN, x -> x.village(8, 41, 41));
        refused("the number below", UNKNOWN, x -> x.village(-1, 1, 1));
        refused("x of one that lies", OUTSIDE, x -> x.village(1, 41, 1));
        refused("y of one that does not", OUTSIDE, x -> x.village(0, 1, -1));
        refused("raze of one that does not lie", UNKNOWN, x -> x.raze(0));
        refused("raze of no such number", UNKNOWN, x -> x.raze(8));
        refused("raze of no such number", UNKNOWN, x -> x.raze(33));
    }

    private static void sayRefused() {
        Check.sentence("say: OUTSIDE; FULL.");
        refused("a code too small", OUTSIDE, x -> x.say(32));
        refused("a code too large", OUTSIDE, x -> x.say(127));
        refused("a code too large for a full PAD", OUTSIDE, with(".".repeat(60)), x -> x.say(127));
        refused("a full PAD", FULL, with(".".repeat(60)), x -> x.say('.'));
        refused("a full PAD with a FAULT", FULL, with("!".repeat(60)), x -> x.say('A'));
    }

    private static void judgeRefused() {
        Check.sentence("judge: OUTSIDE; NO: there is a FAULT; STATE (2): some ACT can not be.");
        refused("OUTSIDE ahead of NO", OUTSIDE, with("DxA"), x -> x.judge(3));
        refused("OUTSIDE ahead of STATE", OUTSIDE, with("Dx"), x -> x.judge(-1));
        for (int what = 0; what <= 2; what++) {
            int told = what;
            refused("NO ahead of STATE", NO, with("DxA"), x -> x.judge(told));
            refused("NO: a wrong sign", NO, with("DxI"), x -> x.judge(told));
        }
        refused("STATE", STATE, with("An1Dx"), x -> x.judge(2));
    }

    private static void behindRefused() {
        Check.sentence("behind: OUTSIDE: what; NO, STATE, as of judge(2); UNKNOWN (behind that)");
        refused("OUTSIDE ahead of all", OUTSIDE, with("DxA"), x -> x.behind(8, 4));
        refused("OUTSIDE ahead of STATE", OUTSIDE, with("Dx"), x -> x.behind(8, -1));
        refused("OUTSIDE ahead of UNKNOWN", OUTSIDE, x -> x.behind(8, 4));
        refused("NO ahead of STATE and UNKNOWN", NO, with("DxA"), x -> x.behind(8, 0));
        refused("NO", NO, with("A"), x -> x.behind(0, 0));
        refused("STATE ahead of UNKNOWN", STATE, with("Dx"), x -> x.behind(8, 0));
        refused("STATE", STATE, with("Dx"), x -> x.behind(0, 0));
        refused("UNKNOWN: no such number", UNKNOWN, x -> x.behind(8, 0));
        refused("UNKNOWN: dead then", UNKNOWN, x -> x.behind(6, 3));
        refused("UNKNOWN: never there", UNKNOWN, x -> x.behind(3, 2));
    }

    private static void sidesRefused() {
        Check.sentence("side: OUTSIDE; NO, STATE, likewise.");
        refused("OUTSIDE ahead of NO", OUTSIDE, with("DxA"), x -> x.side(41, 0));
        refused("OUTSIDE ahead of STATE", OUTSIDE, with("Dx"), x -> x.side(0, -1));
        refused("OUTSIDE", OUTSIDE, x -> x.side(-1, 41));
        refused("NO ahead of STATE", NO, with("DxA"), x -> x.side(40, 0));
        refused("STATE", STATE, with("Dx"), x -> x.side(40, 0));
    }

    private static void southAndLiesRefused() {
        Check.sentence("south, lies: OUTSIDE; NO, STATE, likewise.");
        refused("south: OUTSIDE ahead of NO", OUTSIDE, with("DxA"), x -> x.south(2));
        refused("south: OUTSIDE ahead of STATE", OUTSIDE, with("Dx"), x -> x.south(-1));
        refused("lies: OUTSIDE ahead of NO", OUTSIDE, with("DxA"), x -> x.lies(3));
        refused("lies: OUTSIDE ahead of STATE", OUTSIDE, with("Dx"), x -> x.lies(-1));
        for (int what = 0; what <= 1; what++) {
            int told = what;
            refused("south: NO ahead of STATE", NO, with("DxA"), x -> x.south(told));
            refused("south: STATE", STATE, with("Dx"), x -> x.south(told));
        }
        for (int side = 0; side <= 2; side++) {
            int told = side;
            refused("lies: NO ahead of STATE", NO, with("DxA"), x -> x.lies(told));
            refused("lies: STATE", STATE, with("Dx"), x -> x.lies(told));
        }
    }

    private static void doneRefused() {
        Check.sentence("done: NO, STATE, likewise.");
        refused("NO ahead of STATE", NO, with("DxA"), StandingLine::done);
        refused("NO behind ACTS that can be", NO, with("An1CxG>DA"), StandingLine::done);
        refused("STATE", STATE, with("An1CxG>D.Cx"), StandingLine::done);
    }

    private static void stepsRefused() {
        Check.sentence("sway, fair, orders, crowns: OUTSIDE. / cedes: UNKNOWN.");
        refused("sway x", OUTSIDE, x -> x.sway(41, 0, 0, 0));
        refused("sway y", OUTSIDE, x -> x.sway(0, -1, 0, 0));
        refused("sway side", OUTSIDE, x -> x.sway(0, 0, 3, 0));
        refused("sway what", OUTSIDE, x -> x.sway(0, 0, 0, 3));
        refused("sway of nobody", OUTSIDE, StandingLine::new, x -> x.sway(0, 0, -1, 0));
        refused("fair", OUTSIDE, x -> x.fair(2));
        refused("fair below", OUTSIDE, x -> x.fair(-1));
        refused("orders", OUTSIDE, x -> x.orders(2));
        refused("orders below", OUTSIDE, x -> x.orders(-1));
        refused("crowns", OUTSIDE, x -> x.crowns(3));
        refused("crowns below", OUTSIDE, x -> x.crowns(-1));
        refused("cedes of one who is not there", UNKNOWN, x -> x.cedes(3));
        refused("cedes of no such number", UNKNOWN, x -> x.cedes(8));
    }

    private static StandingLine manySights() {
        StandingLine x = Scene.busy();
        for (int i = 0; i < 6; i++) {
            x.seen(20, 10, 1);
        }
        return x;
    }

    private static void sightsRefused() {
        Check.sentence("seen: OUTSIDE; FULL. / moved, ask: OUTSIDE.");
        refused("seen x", OUTSIDE, x -> x.seen(41, 0, 0));
        refused("seen y", OUTSIDE, x -> x.seen(0, -1, 0));
        refused("seen side", OUTSIDE, x -> x.seen(0, 0, 3));
        refused("seen: OUTSIDE ahead of FULL", OUTSIDE, RefusedTest::manySights, x -> x.seen(0, 0, -1));
        refused("seen: FULL", FULL, RefusedTest::manySights, x -> x.seen(0, 0, 0));
        refused("moved", OUTSIDE, x -> x.moved(2));
        refused("moved below", OUTSIDE, x -> x.moved(-1));
        refused("ask", OUTSIDE, x -> x.ask(2));
        refused("ask below", OUTSIDE, x -> x.ask(-1));
        refused("ask of nothing", OUTSIDE, StandingLine::new, x -> x.ask(2));
    }

    private static void chanceRefused() {
        Check.sentence("goat: OUTSIDE. / year: OUTSIDE.");
        refused("goat x", GONE_OUTSIDE, x -> x.goat(41, 0, 0, 0, 0));
        refused("goat y", GONE_OUTSIDE, x -> x.goat(0, -1, 0, 0, 0));
        refused("goat k", GONE_OUTSIDE, x -> x.goat(0, 0, 7, 0, 1));
        refused("goat side", GONE_OUTSIDE, x -> x.goat(0, 0, 0, 3, 1));
        refused("goat part", GONE_OUTSIDE, x -> x.goat(0, 0, 0, 0, 2));
        refused("year seed", OUTSIDE, x -> x.year(10000, 1, 0));
        refused("year m", OUTSIDE, x -> x.year(0, 0, 1));
        refused("year m", OUTSIDE, x -> x.year(0, 100, 1));
        refused("year what", OUTSIDE, x -> x.year(0, 1, 3));
    }

    private static void imagesRefused() {
        Check.sentence("image: OUTSIDE. / restore: OUTSIDE; STATE: it was not. / told: OUTSIDE.");
        refused("image", OUTSIDE, x -> x.image(2));
        refused("image below", OUTSIDE, x -> x.image(-1));
        refused("restore", OUTSIDE, x -> x.restore(2));
        refused("restore below", OUTSIDE, x -> x.restore(-1));
        refused("restore of what was not kept", STATE, x -> x.restore(1));
        refused("told", OUTSIDE, x -> x.told(7));
        refused("told of one who is not there", OUTSIDE, x -> x.told(50));
        refused("told of a village that is not", OUTSIDE, x -> x.told(100));
    }

    /** What calls that only ask answer, all as one number, so that two objects can be told apart. */
    private static long asked(StandingLine x) {
        long all = 0;
        for (int what = 0; what <= 1; what++) {
            all = 31 * all + x.sway(20, 30, 2, what);
            all = 31 * all + x.fair(what);
            all = 31 * all + x.orders(what);
            all = 31 * all + x.moved(what);
            all = 31 * all + x.ask(what);
            all = 31 * all + x.goat(20, 23, 5, 0, what);
            all = 31 * all + x.year(77, 60, what);
            all = 31 * all + x.crowns(what + 1);
            all = 31 * all + x.cedes(what);
        }
        return all;
    }

    private static void asksChangeNothing() {
        Check.sentence("(calls that tell, and promise no change)");
        refused("all of them", asked(Scene.busy()), RefusedTest::asked);
        refused("all of them, in another scene", asked(manySights()), RefusedTest::manySights, RefusedTest::asked);
    }

    private static void nowWhateverThePadHolds() {
        Check.sentence("(As things are now.)");
        long now = asked(Scene.text(Scene.busy(), ""));
        for (String text : new String[] {"!", "A", "Dx", "AxBxCxGx", "An9.An9", ".".repeat(60)}) {
            Check.due("with the PAD " + text, asked(Scene.text(Scene.busy(), text)), now);
        }
    }
}
