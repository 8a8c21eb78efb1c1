/** The boundary cases of images and of what is told: promises 27 to 29, sentence by sentence. */
public final class ImagesEdgeTest {
    private static final int OUTSIDE = -2, STATE = -3, NONE = -6;

    public static void main(String[] args) {
        imageNumbers();
        restoreNumbers();
        itWasNotKept();
        allIsAsItWas();
        sightsAreAsTheyWere();
        allButThePad();
        keptAnew();
        restoredAgain();
        twoImages();
        imageOfNothing();
        toldNumbers();
        toldOfNobody();
        toldOfPlaces();
        toldOfPersons();
        toldOfVillages();
        toldAsItIsNow();
        Check.end("ImagesEdgeTest");
    }

    private static void imageNumbers() {
        Check.sentence("All but the PAD is kept in an IMAGE (0, 1): 1. OUTSIDE.");
        Check.range("image", 0, 1, OUTSIDE, k -> new StandingLine().image(k));
        Check.due("image(0)", new StandingLine().image(0), 1);
        Check.due("image(1)", new StandingLine().image(1), 1);
    }

    private static void restoreNumbers() {
        Check.sentence("It is as it was when it was kept: 1. OUTSIDE");
        StandingLine x = new StandingLine();
        x.image(0);
        x.image(1);
        Check.range("restore", 0, 1, OUTSIDE, x::restore);
        Check.due("restore(0)", x.restore(0), 1);
        Check.due("restore(1)", x.restore(1), 1);
    }

    private static void itWasNotKept() {
        Check.sentence("STATE: it was not.");
        StandingLine x = new StandingLine();
        Check.due("restore(0)", x.restore(0), STATE);
        x.image(0);
        Check.due("the other one", x.restore(1), STATE);
        Check.due("itself", x.restore(0), 1);
        StandingLine y = new StandingLine();
        y.image(1);
        Check.due("the other one", y.restore(0), STATE);
        y.image(2);
        y.image(-1);
        Check.due("what was refused is not kept", y.restore(0), STATE);
    }

    private static void allIsAsItWas() {
        Check.sentence("It is as it was when it was kept");
        StandingLine x = Scene.busy();
        x.wipe();
        String before = Scene.lookAt(x);
        x.image(1);
        Scene.text(x, "Aw1B>H.Cx");
        x.done();
        x.stand(5, 1, 1, 0);
        x.set(0, 1);
        x.set(1, 2);
        x.set(2, 3);
        x.raze(1);
        x.village(6, 2, 2);
        x.village(0, 2, 3);
        x.forget();
        x.seen(9, 9, 1);
        Check.holds("another one now", !Scene.lookAt(x).equals(before));
        x.restore(1);
        Check.holds("the old one", Scene.lookAt(x).equals(before));
    }

    /** Each of these differs from the sight that is kept by x, by y or by its side alone. */
    private static void sightsAreAsTheyWere() {
        Check.sentence("It is as it was when it was kept: each SIGHT, too");
        int[][] others = {{30, 25, 2}, {10, 15, 2}, {10, 25, 1}};
        for (int[] other : others) {
            StandingLine x = Scene.ends(14, 35);
            Check.due("side(10, 25)", x.side(10, 25), 0);
            x.seen(10, 25, 2);
            x.image(0);
            x.forget();
            x.seen(other[0], other[1], other[2]);
            x.restore(0);
            x.stand(0, 10, 22, 0);
            Check.due("moved(0): three steps to the north", x.moved(0), 1);
        }
    }

    private static void allButThePad() {
        Check.sentence("All but the PAD is kept");
        StandingLine x = Scene.threeStand();
        Scene.text(x, "AxBxCx");
        x.image(0);
        Scene.text(x, "An1");
        x.restore(0);
        Check.due("told(0)", x.told(0), 3);
        Check.due("judge(2)", x.judge(2), 1);
        x.wipe();
        x.restore(0);
        Check.due("told(0)", x.told(0), 0);
        Scene.text(x, ".".repeat(60));
        x.restore(0);
        Check.due("told(0)", x.told(0), 60);
        Scene.text(x, "!");
        x.restore(0);
        Check.due("fault()", x.fault(), 0);
    }

    private static void keptAnew() {
        Check.sentence("All .. is kept in an IMAGE, kept once before");
        StandingLine x = Scene.threeStand();
        x.image(0);
        x.leave(0);
        x.image(0);
        x.leave(1);
        x.restore(0);
        Check.due("told(1)", x.told(1), 6);
    }

    private static void restoredAgain() {
        Check.sentence("It is as it was when it was kept, however often");
        StandingLine x = Scene.threeStand();
        x.village(3, 3, 3);
        x.seen(4, 4, 1);
        x.image(0);
        for (int i = 0; i < 3; i++) {
            Scene.text(x, "An5");
            x.done();
            x.leave(1);
            x.village(3, 30, 30);
            x.seen(5, 5, 1);
            x.set(2, 50 + i);
            x.restore(0);
            Check.due("told(21)", x.told(21), 20);
            Check.due("told(22)", x.told(22), 0);
            Check.due("told(1)", x.told(1), 7);
            Check.due("told(103)", x.told(103), 153);
            Check.due("told(6)", x.told(6), 1);
            Check.due("told(4)", x.told(4), 20);
        }
    }

    private static void twoImages() {
        Check.sentence("an IMAGE (0, 1)");
        StandingLine x = Scene.threeStand();
        x.image(0);
        x.leave(0);
        x.image(1);
        x.leave(1);
        x.restore(0);
        Check.due("told(1)", x.told(1), 7);
        x.restore(1);
        Check.due("told(1)", x.told(1), 6);
        x.restore(0);
        x.image(1);
        x.leave(2);
        x.restore(1);
        Check.due("the one kept from the other", x.told(1), 7);
    }

    private static void imageOfNothing() {
        Check.sentence("It is as it was (nobody, no VILLAGES, no SIGHTS)");
        StandingLine x = new StandingLine();
        String first = Scene.lookAt(x);
        x.image(0);
        x.stand(0, 1, 2, 0);
        x.village(7, 3, 4);
        x.seen(5, 6, 2);
        x.set(2, 0);
        x.restore(0);
        Check.holds("as new", Scene.lookAt(x).equals(first));
    }

    private static void toldNumbers() {
        Check.sentence("told: .. OUTSIDE.");
        StandingLine x = Scene.eightStand();
        for (int i = 0; i < 8; i++) {
            x.village(i, 1, i);
        }
        for (int what = -30; what <= 140; what++) {
            boolean person = what >= 20 && what < 100 && what % 10 <= 2;
            boolean told = what >= 0 && what <= 6 || what >= 10 && what <= 17 || person || what >= 100 && what <= 107;
            Check.holds("told(" + what + ") " + (told ? "is told" : "is OUTSIDE"), (x.told(what) != OUTSIDE) == told);
        }
        for (int what : new int[] {Integer.MIN_VALUE, Integer.MIN_VALUE + 1, -256, 256, 262, 65536, 65546,
            Integer.MAX_VALUE - 1, Integer.MAX_VALUE}) {
            Check.due("told(" + what + ")", x.told(what), OUTSIDE);
        }
    }

    private static void toldOfNobody() {
        Check.sentence("0 signs, 1 PERSONS (bits), 2 to 4 WEST, EAST, REACH, 5 VILLAGES (bits), 6 SIGHTS");
        StandingLine x = new StandingLine();
        int[] least = {0, 0, 20, 20, 20, 0, 0};
        for (int what = 0; what <= 6; what++) {
            Check.due("told(" + what + ") at first", x.told(what), least[what]);
        }
        StandingLine full = Scene.eightStand();
        full.set(0, 40);
        full.set(1, 0);
        full.set(2, 99);
        for (int i = 0; i < 8; i++) {
            full.village(i, 0, 0);
            full.seen(0, 0, 0);
        }
        Scene.text(full, ".".repeat(60));
        int[] most = {60, 255, 40, 0, 99, 255, 8};
        for (int what = 0; what <= 6; what++) {
            Check.due("told(" + what + ") of all there may be", full.told(what), most[what]);
        }
    }

    private static void toldOfPlaces() {
        Check.sentence("10 and a place of the ROW (10 to 17): who (NONE)");
        for (int count = 0; count <= 8; count++) {
            StandingLine x = new StandingLine();
            for (int i = 0; i < count; i++) {
                x.stand(7 - i, i, i, i);
            }
            for (int place = 0; place < 8; place++) {
                Check.due("told(" + (10 + place) + ") of " + count, x.told(10 + place),
                    place < count ? 7 - place : NONE);
            }
        }
    }

    private static void toldOfPersons() {
        Check.sentence("10 times (2 and a PERSON who is there) and 0 x, 1 y, 2 WALKED");
        for (int person = 0; person < 8; person++) {
            StandingLine x = Scene.oneStands(person, 40, 0, 20, 20);
            Scene.text(x, (char) ('A' + person) + "n9");
            x.done();
            int base = 20 + 10 * person;
            Check.due("told(" + base + ")", x.told(base), 40);
            Check.due("told(" + (base + 1) + ")", x.told(base + 1), 9);
            Check.due("told(" + (base + 2) + ")", x.told(base + 2), 9);
            for (int other = 0; other < 8; other++) {
                if (other != person) {
                    for (int what = 0; what <= 2; what++) {
                        Check.due("of one who is not there", x.told(20 + 10 * other + what), OUTSIDE);
                    }
                }
            }
            x.leave(person);
            Check.due("of one who has left", x.told(base), OUTSIDE);
        }
    }

    private static void toldOfVillages() {
        Check.sentence("100 and a VILLAGE that there is: 50 times x and y");
        for (int village = 0; village < 8; village++) {
            StandingLine x = new StandingLine();
            x.village(village, 40, village);
            for (int other = 0; other < 8; other++) {
                Check.due("told(" + (100 + other) + ")", x.told(100 + other),
                    other == village ? 2000 + village : OUTSIDE);
            }
            x.raze(village);
            Check.due("razed", x.told(100 + village), OUTSIDE);
        }
    }

    private static void toldAsItIsNow() {
        Check.sentence("told (what is, not what the PAD would do)");
        StandingLine x = Scene.text(Scene.threeStand(), "An1BxC>H");
        Check.due("told(1)", x.told(1), 7);
        Check.due("told(21)", x.told(21), 20);
        Check.due("told(22)", x.told(22), 0);
        Check.due("told(11)", x.told(11), 2);
        Scene.text(x, "!");
        Check.due("a FAULT is no matter", x.told(1), 7);
    }
}
