/** Objects that tests begin with, and all that can be seen of one. */
final class Scene {
    private Scene() {
    }

    /** Three in a row over the middle: A (10, 20), C (20, 24), B (30, 20). */
    static StandingLine threeStand() {
        StandingLine x = new StandingLine();
        x.stand(0, 10, 20, 0);
        x.stand(1, 30, 20, 1);
        x.stand(2, 20, 24, 1);
        return x;
    }

    /** All eight on the line from the west to the east, person i on (5 i, 20). */
    static StandingLine eightStand() {
        StandingLine x = new StandingLine();
        for (int i = 0; i < 8; i++) {
            x.stand(i, 5 * i, 20, i);
        }
        return x;
    }

    /** One person alone, and both ends of the line. */
    static StandingLine oneStands(int person, int x, int y, int west, int east) {
        StandingLine line = ends(west, east);
        line.stand(person, x, y, 0);
        return line;
    }

    static StandingLine ends(int west, int east) {
        StandingLine x = new StandingLine();
        x.set(0, west);
        x.set(1, east);
        return x;
    }

    /** Something of everything: who walked, villages on each side, sights, one image, days without a fault. */
    static StandingLine busy() {
        StandingLine x = threeStand();
        x.set(0, 18);
        x.set(1, 23);
        x.set(2, 15);
        x.village(1, 20, 10);
        x.village(6, 20, 24);
        x.image(0);
        x.village(7, 3, 40);
        x.stand(6, 35, 9, 3);
        text(x, "Ae3Cn1");
        x.done();
        x.seen(20, 10, 1);
        x.seen(3, 40, 0);
        text(x, "As2.Gx");
        return x;
    }

    /** The pad holds this text and no other. */
    static StandingLine text(StandingLine x, String text) {
        x.wipe();
        for (int i = 0; i < text.length(); i++) {
            x.say(text.charAt(i));
        }
        return x;
    }

    /** What told, fault and the calls behind the pad tell, as one text: some ninety calls. */
    static String lookAt(StandingLine x) {
        StringBuilder seen = new StringBuilder();
        for (int what = 0; what <= 6; what++) {
            seen.append(x.told(what)).append(' ');
        }
        for (int i = 0; i < 8; i++) {
            seen.append('|').append(x.told(10 + i)).append(' ').append(x.told(100 + i));
            for (int what = 0; what <= 2; what++) {
                seen.append(' ').append(x.told(20 + 10 * i + what));
            }
            for (int what = 0; what <= 3; what++) {
                seen.append(' ').append(x.behind(i, what));
            }
        }
        seen.append('|').append(x.fault());
        for (int what = 0; what <= 2; what++) {
            seen.append(' ').append(x.judge(what)).append(' ').append(x.lies(what));
        }
        seen.append('|').append(x.south(0)).append(' ').append(x.south(1));
        seen.append(' ').append(x.moved(0)).append(' ').append(x.moved(1));
        return seen.toString();
    }
}
