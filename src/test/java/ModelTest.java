import java.util.Random;

/** Drawn runs of 512 calls, or a few less, on the class and on the model, which must answer alike; the seeds are fixed. */
public final class ModelTest {
    private static final int RUNS = 500;
    private static final int CALLS = 512;
    /** No draw makes more calls than this: the one that has all told. */
    private static final int MOST_AT_ONCE = 112;

    private final Random random;
    private final int run;
    /** The points of a run lie within so much of the middle: dense runs meet, fold and take one another's points. */
    private final int spread;
    private final StandingLine x = new StandingLine();
    private final Model model = new Model();
    private int called = 0;

    private ModelTest(int run) {
        this.run = run;
        this.random = new Random(run);
        this.spread = new int[] {20, 20, 6, 3, 1}[run % 5];
    }

    public static void main(String[] args) {
        for (int run = 0; run < RUNS && Check.wrongSoFar() < 20; run++) {
            new ModelTest(run).calls();
        }
        Check.end("ModelTest");
    }

    private void calls() {
        while (called + MOST_AT_ONCE <= CALLS) {
            call();
        }
    }

    private void due(String call, long got, long want) {
        called++;
        Check.due("run " + run + ": " + call, got, want);
    }

    /** Mostly from least to greatest, now and then just beyond or far out. */
    private int draw(int least, int greatest) {
        int chance = random.nextInt(60);
        if (chance == 0) {
            return least - 1;
        }
        if (chance == 1) {
            return greatest + 1;
        }
        if (chance == 2) {
            return new int[] {Integer.MIN_VALUE, Integer.MAX_VALUE, random.nextInt()}[random.nextInt(3)];
        }
        return least + random.nextInt(greatest - least + 1);
    }

    private int drawPoint() {
        return random.nextInt(4) == 0 ? draw(0, 40) : 20 + random.nextInt(2 * spread + 1) - spread;
    }

    private void sayActs() {
        String letters = "ABCDEFGH";
        int acts = 1 + random.nextInt(6);
        StringBuilder text = new StringBuilder();
        for (int i = 0; i < acts; i++) {
            char letter = letters.charAt(random.nextInt(8));
            int kind = random.nextInt(10);
            if (kind == 0) {
                text.append('.');
            } else if (kind == 1) {
                text.append(letter).append('x');
            } else if (kind == 2) {
                text.append(letter).append('>').append(letters.charAt(random.nextInt(8)));
            } else {
                text.append(letter).append("nesw".charAt(random.nextInt(4)))
                    .append(1 + random.nextInt(random.nextBoolean() ? 2 : 9));
            }
        }
        if (random.nextInt(8) == 0) {
            text.insert(random.nextInt(text.length() + 1), (char) (33 + random.nextInt(94)));
        }
        for (int i = 0; i < text.length(); i++) {
            say(text.charAt(i));
        }
    }

    private void say(int sign) {
        due("say(" + sign + ")", x.say(sign), model.say(sign));
    }

    private void call() {
        int kind = random.nextInt(36);
        if (kind < 12) {
            tell(kind);
        } else if (kind < 22) {
            lookBehind(kind);
        } else {
            reckon(kind);
        }
    }

    private void tell(int kind) {
        int a = draw(0, 7);
        int b = drawPoint();
        int c = drawPoint();
        switch (kind) {
            case 0, 1, 2, 3: {
                int place = draw(0, Math.max(0, Integer.bitCount(model.told(1))));
                due("stand(" + a + ", " + b + ", " + c + ", " + place + ")",
                    x.stand(a, b, c, place), model.stand(a, b, c, place));
                break;
            }
            case 4:
                due("leave(" + a + ")", x.leave(a), model.leave(a));
                break;
            case 5: {
                int which = draw(0, 2);
                int v = which == 2 ? draw(0, random.nextBoolean() ? 99 : 12) : drawPoint();
                due("set(" + which + ", " + v + ")", x.set(which, v), model.set(which, v));
                break;
            }
            case 6, 7:
                due("village(" + a + ", " + b + ", " + c + ")", x.village(a, b, c), model.village(a, b, c));
                break;
            case 8:
                due("raze(" + a + ")", x.raze(a), model.raze(a));
                break;
            case 9, 10:
                sayActs();
                break;
            default: {
                int sign = draw(33, 126);
                say(sign);
                due("wipe()", x.wipe(), model.wipe());
                break;
            }
        }
    }

    private void lookBehind(int kind) {
        int a = draw(0, 7);
        int b = drawPoint();
        int c = drawPoint();
        switch (kind) {
            case 12:
                due("fault()", x.fault(), model.fault());
                break;
            case 13:
                for (int what = -1; what <= 3; what++) {
                    due("judge(" + what + ")", x.judge(what), model.judge(what));
                }
                break;
            case 14: {
                int what = draw(0, 3);
                due("behind(" + a + ", " + what + ")", x.behind(a, what), model.behind(a, what));
                break;
            }
            case 15:
                due("side(" + b + ", " + c + ")", x.side(b, c), model.side(b, c));
                break;
            case 16, 17:
                due("south(0)", x.south(0), model.south(0));
                due("south(1)", x.south(1), model.south(1));
                break;
            case 18:
                for (int side = -1; side <= 3; side++) {
                    due("lies(" + side + ")", x.lies(side), model.lies(side));
                }
                break;
            case 19, 20:
                due("done()", x.done(), model.done());
                if (random.nextBoolean()) {
                    due("wipe()", x.wipe(), model.wipe());
                }
                break;
            default:
                for (int what = -2; what < 110; what += 1 + random.nextInt(8)) {
                    due("told(" + what + ")", x.told(what), model.told(what));
                }
                break;
        }
    }

    private void reckon(int kind) {
        int a = draw(0, 7);
        int b = drawPoint();
        int c = drawPoint();
        int side = draw(0, 2);
        int two = draw(0, 1);
        int three = draw(0, 2);
        switch (kind) {
            case 22:
                if (random.nextInt(6) == 0) {
                    due("sway(" + b + ", " + c + ", " + side + ", " + three + ")",
                        x.sway(b, c, side, three), model.sway(b, c, side, three));
                }
                break;
            case 23:
                due("fair(" + two + ")", x.fair(two), model.fair(two));
                break;
            case 24:
                due("cedes(" + a + ")", x.cedes(a), model.cedes(a));
                break;
            case 25:
                if (Integer.bitCount(model.told(1)) < 7 || random.nextInt(20) == 0) {
                    due("orders(" + two + ")", x.orders(two), model.orders(two));
                }
                break;
            case 26, 27: {
                boolean likely = random.nextInt(3) > 0 && model.side(b, c) >= 0;
                int seen = likely ? model.side(b, c) : side;
                due("seen(" + b + ", " + c + ", " + seen + ")", x.seen(b, c, seen), model.seen(b, c, seen));
                break;
            }
            case 28:
                if (random.nextInt(3) == 0) {
                    due("forget()", x.forget(), model.forget());
                }
                break;
            case 29:
                due("moved(" + two + ")", x.moved(two), model.moved(two));
                break;
            case 30:
                due("ask(" + two + ")", x.ask(two), model.ask(two));
                break;
            case 31:
                due("crowns(" + three + ")", x.crowns(three), model.crowns(three));
                break;
            case 32: {
                int k = draw(0, 6);
                due("goat(" + b + ", " + c + ", " + k + ", " + side + ", " + two + ")",
                    x.goat(b, c, k, side, two), model.goat(b, c, k, side, two));
                break;
            }
            case 33: {
                int seed = draw(0, 9999);
                int m = draw(1, 99);
                due("year(" + seed + ", " + m + ", " + three + ")",
                    x.year(seed, m, three), model.year(seed, m, three));
                break;
            }
            case 34:
                due("image(" + two + ")", x.image(two), model.image(two));
                break;
            default:
                if (random.nextInt(3) == 0) {
                    due("restore(" + two + ")", x.restore(two), model.restore(two));
                }
                break;
        }
    }
}
