/** The boundary cases of the pad, the fault and the acts: promises 7 to 11 and 15, sentence by sentence. */
public final class DaysEdgeTest {
    private static final int UNKNOWN = -1, OUTSIDE = -2, STATE = -3, FULL = -4, NO = -5, NONE = -6;
    private static final String LETTERS = "ABCDEFGH";

    public static void main(String[] args) {
        codes();
        sixtySigns();
        aSignChangesTheFault();
        signsGo();
        signsThatMayBegin();
        signsBehindALetter();
        digits();
        letterOfTheHeir();
        theFirstSign();
        moreMustCome();
        noFault();
        judgeWhat();
        firstActFromZero();
        noActThatCanNotBe();
        stepsInAll();
        noSuchPerson();
        leavesTheLand();
        whereAnotherStands();
        walkedMoreThanReach();
        walkedMoreThanALesserReach();
        dayEnds();
        heirIsThere();
        theLeastReason();
        heDies();
        hisHeir();
        behindWhat();
        behindNotThereThen();
        placeFromZero();
        behindAnEmptyPad();
        doneActs();
        padIsEmptyThen();
        itIsSoThen();
        doneRefused();
        Check.end("DaysEdgeTest");
    }

    private static void codes() {
        Check.sentence("signs (codes 33 to 126) / A sign more: how many. OUTSIDE");
        Check.range("say", 33, 126, OUTSIDE, sign -> new StandingLine().say(sign));
        Check.due("a letter wrapped around", new StandingLine().say(65 + 65536), OUTSIDE);
        Check.due("a letter and 128", new StandingLine().say(65 + 128), OUTSIDE);
    }

    private static void sixtySigns() {
        Check.sentence("a PAD of up to 60 signs / FULL");
        StandingLine x = new StandingLine();
        for (int i = 1; i <= 60; i++) {
            Check.due("say", x.say('.'), i);
        }
        Check.due("the 61st", x.say('.'), FULL);
        Check.due("the 61st, once more", x.say('A'), FULL);
        Check.due("told(0)", x.told(0), 60);
        Check.due("fault()", x.fault(), NONE);
        Check.due("wipe()", x.wipe(), 60);
        Check.due("there is room anew", x.say('.'), 1);
    }

    private static void aSignChangesTheFault() {
        Check.sentence("They change nothing (a sign that is said changes what fault() tells).");
        StandingLine x = new StandingLine();
        int[] due = {1, 2, NONE, 4, 5, 5};
        for (int i = 0; i < due.length; i++) {
            x.say("An1An ".charAt(i));
            Check.due("fault() behind " + (i + 1) + " signs", x.fault(), due[i]);
        }
        Check.due("told(0): the blank was refused", x.told(0), 5);
        x.say('!');
        Check.due("one that can not stand there", x.fault(), 5);
        x.say('A');
        Check.due("whatever comes behind it", x.fault(), 5);
    }

    private static void signsGo() {
        Check.sentence("Signs go: how many there were.");
        StandingLine x = Scene.threeStand();
        Check.due("wipe() of none", x.wipe(), 0);
        Scene.text(x, "AxBx!");
        Check.due("wipe()", x.wipe(), 5);
        Check.due("wipe()", x.wipe(), 0);
        Check.due("fault()", x.fault(), NONE);
        Check.due("done()", x.done(), 0);
        x.say('.');
        Check.due("nothing of the old text is left", x.done(), 1);
        Check.due("told(1)", x.told(1), 7);
    }

    /** All signs that can be said, behind a text without a fault ahead of its last act. */
    private static void dueNext(String ahead, String allowed, boolean ends) {
        for (int sign = 33; sign <= 126; sign++) {
            StandingLine x = Scene.text(new StandingLine(), ahead + (char) sign);
            boolean may = allowed.indexOf(sign) >= 0;
            int want = !may ? ahead.length() : ends ? NONE : ahead.length() + 1;
            Check.due("fault() of " + ahead + (char) sign, x.fault(), want);
        }
    }

    private static void dueBegin(String ahead) {
        for (int sign = 33; sign <= 126; sign++) {
            StandingLine x = Scene.text(new StandingLine(), ahead + (char) sign);
            int want = sign == '.' ? NONE : LETTERS.indexOf(sign) >= 0 ? ahead.length() + 1 : ahead.length();
            Check.due("fault() of " + ahead + (char) sign, x.fault(), want);
        }
    }

    private static void signsThatMayBegin() {
        Check.sentence("of ACTS: a PERSON's letter and ..; or . (the day ends");
        for (String ahead : new String[] {"", ".", "An1", "Hx", "A>B", "..Cw9."}) {
            dueBegin(ahead);
        }
    }

    private static void signsBehindALetter() {
        Check.sentence("a PERSON's letter and: n, e, s or w and a digit, x, or > and another letter");
        for (String ahead : new String[] {"A", "H", ".D"}) {
            for (int sign = 33; sign <= 126; sign++) {
                StandingLine x = Scene.text(new StandingLine(), ahead + (char) sign);
                int at = ahead.length();
                int want = sign == 'x' ? NONE : "nesw>".indexOf(sign) >= 0 ? at + 1 : at;
                Check.due("fault() of " + ahead + (char) sign, x.fault(), want);
            }
        }
    }

    private static void digits() {
        Check.sentence("a digit 1 to 9");
        for (String ahead : new String[] {"An", "Be", "Cs", "Hw", "..Ax.Hw"}) {
            dueNext(ahead, "123456789", true);
        }
    }

    private static void letterOfTheHeir() {
        Check.sentence("or > and another letter");
        dueNext("A>", LETTERS, true);
        dueNext(".H>", LETTERS, true);
    }

    private static void theFirstSign() {
        Check.sentence("THE FAULT: the place (from 0 on) of the first sign that can not stand there");
        Check.due("the first of all", Scene.text(new StandingLine(), "!Ax!").fault(), 0);
        Check.due("the first of two", Scene.text(new StandingLine(), "An1!!").fault(), 3);
        Check.due("the last of sixty", Scene.text(new StandingLine(), ".".repeat(59) + "x").fault(), 59);
    }

    private static void moreMustCome() {
        Check.sentence("or the number of signs, if more must come");
        Check.due("A", Scene.text(new StandingLine(), "A").fault(), 1);
        Check.due("A>", Scene.text(new StandingLine(), "A>").fault(), 2);
        Check.due("An1B", Scene.text(new StandingLine(), "An1B").fault(), 4);
        Check.due("though no more can come", Scene.text(new StandingLine(), ".".repeat(58) + "Ae").fault(), 60);
        Check.due("though no more can come", Scene.text(new StandingLine(), ".".repeat(59) + "A").fault(), 60);
    }

    private static void noFault() {
        Check.sentence("THE FAULT; NONE.");
        Check.due("an empty PAD", new StandingLine().fault(), NONE);
        Check.due("a full PAD", Scene.text(new StandingLine(), "Hw9".repeat(20)).fault(), NONE);
        Check.due("an ACT that can not be is none", Scene.text(new StandingLine(), "A>A").fault(), NONE);
    }

    private static void dueJudge(StandingLine x, String text, int act, int why, int steps) {
        Scene.text(x, text);
        Check.due("judge(0) of " + text, x.judge(0), act);
        Check.due("judge(1) of " + text, x.judge(1), why);
        Check.due("judge(2) of " + text, x.judge(2), steps);
    }

    private static void judgeWhat() {
        Check.sentence("the ACT (what = 0), why (1), steps (2); OUTSIDE; NO: there is a FAULT; STATE (2): some ACT can not be");
        Check.range("judge", 0, 2, OUTSIDE, what -> Scene.threeStand().judge(what));
        for (int what = 0; what <= 2; what++) {
            Check.due("a sign too few", Scene.text(Scene.threeStand(), "An").judge(what), NO);
            Check.due("a wrong sign", Scene.text(Scene.threeStand(), "An1!").judge(what), NO);
        }
        dueJudge(Scene.threeStand(), "Dn1", 0, 1, STATE);
    }

    private static void firstActFromZero() {
        Check.sentence("JUDGED: the first ACT (from 0 on) that can not be, why");
        dueJudge(Scene.threeStand(), "DxExFx", 0, 1, STATE);
        dueJudge(Scene.threeStand(), "An1.DxA>A", 2, 1, STATE);
        dueJudge(Scene.threeStand(), ".".repeat(58) + "Dx", 58, 1, STATE);
        dueJudge(Scene.threeStand(), ".".repeat(57) + "A>A", 57, 5, STATE);
    }

    private static void noActThatCanNotBe() {
        Check.sentence("JUDGED: .. NONE");
        dueJudge(new StandingLine(), "", NONE, NONE, 0);
        dueJudge(new StandingLine(), ".".repeat(60), NONE, NONE, 0);
        dueJudge(Scene.threeStand(), "", NONE, NONE, 0);
    }

    private static void stepsInAll() {
        Check.sentence("steps in all");
        StandingLine x = Scene.threeStand();
        dueJudge(x, "A>D.BxCx", NONE, NONE, 0);
        dueJudge(x, "An1", NONE, NONE, 1);
        dueJudge(x, "An1As1", NONE, NONE, 2);
        x.set(2, 99);
        dueJudge(x, "An9As9".repeat(5) + "Bn9Bs9".repeat(5), NONE, NONE, 180);
        dueJudge(x, "An9BxAn9", NONE, NONE, 18);
        dueJudge(x, "An9Ax", NONE, NONE, 9);
    }

    private static void noSuchPerson() {
        Check.sentence("1 there is no such PERSON");
        StandingLine x = Scene.threeStand();
        for (String act : new String[] {"Dn1", "De9", "Ds1", "Dw9", "Dx", "D>E", "D>A", "D>D", "Hx"}) {
            dueJudge(x, act, 0, 1, STATE);
        }
        dueJudge(x, "AxAn1", 1, 1, STATE);
        dueJudge(x, "A>DA>E", 1, 1, STATE);
        dueJudge(x, "A>DDxDx", 2, 1, STATE);
    }

    private static void leavesTheLand() {
        Check.sentence("2 he would leave the LAND");
        StandingLine low = Scene.oneStands(0, 9, 9, 20, 20);
        dueJudge(low, "Aw9", NONE, NONE, 9);
        dueJudge(low, "As9", NONE, NONE, 9);
        dueJudge(low, "Aw9Aw1", 1, 2, STATE);
        dueJudge(low, "As9As1", 1, 2, STATE);
        dueJudge(low, "Aw1Aw9", 1, 2, STATE);
        dueJudge(low, "As1As9", 1, 2, STATE);
        StandingLine high = Scene.oneStands(0, 31, 31, 20, 20);
        dueJudge(high, "Ae9", NONE, NONE, 9);
        dueJudge(high, "An9", NONE, NONE, 9);
        dueJudge(high, "Ae9Ae1", 1, 2, STATE);
        dueJudge(high, "An9An1", 1, 2, STATE);
        dueJudge(high, "Ae1Ae9", 1, 2, STATE);
        dueJudge(high, "An1An9", 1, 2, STATE);
    }

    private static void whereAnotherStands() {
        Check.sentence("3 he would stand where another one does");
        StandingLine x = new StandingLine();
        x.stand(0, 10, 10, 0);
        x.stand(1, 13, 10, 1);
        x.stand(2, 10, 7, 2);
        x.village(0, 11, 10);
        dueJudge(x, "Ae3", 0, 3, STATE);
        dueJudge(x, "As3", 0, 3, STATE);
        dueJudge(x, "Bw3", 0, 3, STATE);
        dueJudge(x, "Cn3", 0, 3, STATE);
        dueJudge(x, "Ae2", NONE, NONE, 2);
        dueJudge(x, "Ae4", NONE, NONE, 4);
        dueJudge(x, "Ae1", NONE, NONE, 1);
        dueJudge(x, "Bn1Ae3", NONE, NONE, 4);
        dueJudge(x, "BxAe3", NONE, NONE, 3);
        dueJudge(x, "B>DAe3", 1, 3, STATE);
        dueJudge(x, "Bn1Ae3Bs1", 2, 3, STATE);
    }

    private static void walkedMoreThanReach() {
        Check.sentence("4 he would have WALKED more than REACH");
        StandingLine x = Scene.oneStands(0, 20, 20, 20, 20);
        dueJudge(x, "An9As9An2", NONE, NONE, 20);
        dueJudge(x, "An9As9An3", 2, 4, STATE);
        dueJudge(x, "An9As9An2An1", 3, 4, STATE);
        x.set(2, 0);
        dueJudge(x, "An1", 0, 4, STATE);
        x.set(2, 1);
        dueJudge(x, "An1", NONE, NONE, 1);
        dueJudge(x, "An2", 0, 4, STATE);
        x.set(2, 99);
        dueJudge(x, "An9As9".repeat(5) + "An9", NONE, NONE, 99);
        dueJudge(x, "An9As9".repeat(5) + "An9As1", 11, 4, STATE);
    }

    private static void walkedMoreThanALesserReach() {
        Check.sentence("REACH is how many steps one may walk in a day; WALKED of each in this day");
        StandingLine x = Scene.threeStand();
        Scene.text(x, "An9");
        x.done();
        dueJudge(x, "Ae9Ae2", NONE, NONE, 11);
        dueJudge(x, "Ae9Ae3", 1, 4, STATE);
        dueJudge(x, "Be9Bs9Be1Bn1", NONE, NONE, 20);
        x.set(2, 5);
        dueJudge(x, "An1", 0, 4, STATE);
        dueJudge(x, ".An5", NONE, NONE, 5);
        dueJudge(x, "A>D", NONE, NONE, 0);
        dueJudge(x, "A>DDn1", 1, 4, STATE);
        dueJudge(x, "Ax", NONE, NONE, 0);
    }

    private static void dayEnds() {
        Check.sentence(". (the day ends: WALKED is 0 of all)");
        StandingLine x = Scene.threeStand();
        Scene.text(x, "An9Bn8Cn7");
        x.done();
        Scene.text(x, ".");
        for (int person = 0; person <= 2; person++) {
            Check.due("told(" + (22 + 10 * person) + ")", x.told(22 + 10 * person), 9 - person);
            Check.due("behind(" + person + ", 2)", x.behind(person, 2), 0);
        }
        x.done();
        Check.due("told(22)", x.told(22), 0);
        dueJudge(x, "As9An9As2.An9As9An2", NONE, NONE, 40);
        dueJudge(x, "As9An9As2.An9As9An2As1", 7, 4, STATE);
    }

    private static void heirIsThere() {
        Check.sentence("5 the heir is there already (or is himself)");
        StandingLine x = Scene.threeStand();
        dueJudge(x, "A>B", 0, 5, STATE);
        dueJudge(x, "A>A", 0, 5, STATE);
        dueJudge(x, "A>H", NONE, NONE, 0);
        dueJudge(x, "BxA>B", NONE, NONE, 0);
        dueJudge(x, "A>DB>A", NONE, NONE, 0);
        dueJudge(x, "A>DB>D", 1, 5, STATE);
        dueJudge(x, "A>DD>A", NONE, NONE, 0);
        StandingLine eight = Scene.eightStand();
        for (int i = 0; i < 8; i++) {
            dueJudge(eight, "D>" + LETTERS.charAt(i), 0, 5, STATE);
        }
    }

    private static void theLeastReason() {
        Check.sentence("An ACT can not be for the least of these reasons");
        StandingLine x = Scene.threeStand();
        dueJudge(x, "D>A", 0, 1, STATE);
        dueJudge(x, "D>D", 0, 1, STATE);
        x.set(2, 0);
        dueJudge(x, "Dn9", 0, 1, STATE);
        x.set(2, 9);
        dueJudge(x, "Aw9Aw2", 1, 2, STATE);
        dueJudge(x, "Aw9Aw1", 1, 4, STATE);
        StandingLine near = new StandingLine();
        near.stand(0, 10, 10, 0);
        near.stand(1, 12, 10, 1);
        near.set(2, 1);
        dueJudge(near, "Ae2", 0, 3, STATE);
        dueJudge(near, "Ae3", 0, 4, STATE);
    }

    private static void heDies() {
        Check.sentence("x (he dies: he is no more in the ROW)");
        StandingLine x = Scene.threeStand();
        Scene.text(x, "AxBxCx");
        for (int person = 0; person <= 2; person++) {
            Check.due("behind(" + person + ", 0)", x.behind(person, 0), UNKNOWN);
        }
        Check.due("south(0)", x.south(0), 1680);
        Check.due("done()", x.done(), 3);
        Check.due("told(1)", x.told(1), 0);
        Check.due("told(10)", x.told(10), NONE);
        Check.due("he may stand anew", x.stand(0, 10, 20, 0), 1);
    }

    private static void hisHeir() {
        Check.sentence("he stands where he stood, in his place in the ROW, WALKED as he; he himself is no more");
        StandingLine x = Scene.threeStand();
        Scene.text(x, "Cn2C>H");
        Check.due("x", x.behind(7, 0), 20);
        Check.due("y", x.behind(7, 1), 26);
        Check.due("WALKED", x.behind(7, 2), 2);
        Check.due("place", x.behind(7, 3), 1);
        Check.due("he himself", x.behind(2, 0), UNKNOWN);
        Check.due("done()", x.done(), 2);
        Check.due("told(1)", x.told(1), 131);
        Check.due("told(11)", x.told(11), 7);
        Check.due("told(92)", x.told(92), 2);
        Scene.text(x, "An7.Ax.H>A");
        Check.due("one who walked and died has WALKED as he whose heir he is", x.behind(0, 2), 0);
        Scene.text(x, "An7AxH>A");
        Check.due("the same day, too", x.behind(0, 2), 2);
    }

    private static void behindWhat() {
        Check.sentence("x (what = 0), y (1), WALKED (2), the place (3). OUTSIDE: what");
        Check.range("behind(2, ..)", 0, 3, OUTSIDE, what -> Scene.threeStand().behind(2, what));
    }

    private static void behindNotThereThen() {
        Check.sentence("UNKNOWN (behind that): he is not there then.");
        for (int beyond : Check.beyond(0, 7)) {
            Check.due("behind(" + beyond + ", 0)", Scene.eightStand().behind(beyond, 0), UNKNOWN);
        }
        StandingLine x = Scene.threeStand();
        for (int what = 0; what <= 3; what++) {
            Check.due("never there", x.behind(7, what), UNKNOWN);
        }
        Scene.text(x, "Ax");
        Check.due("dead then", x.behind(0, 1), UNKNOWN);
        Scene.text(x, "A>D");
        Check.due("come then", x.behind(3, 1), 20);
        Check.due("not now", x.told(51), OUTSIDE);
    }

    private static void placeFromZero() {
        Check.sentence("BEHIND: of a PERSON x, y, WALKED, his place in the ROW (0 on).");
        StandingLine x = Scene.eightStand();
        for (int person = 0; person < 8; person++) {
            Check.due("behind(" + person + ", 3)", x.behind(person, 3), person);
        }
        Scene.text(x, "AxDx");
        int[] due = {UNKNOWN, 0, 1, UNKNOWN, 2, 3, 4, 5};
        for (int person = 0; person < 8; person++) {
            Check.due("behind(" + person + ", 3) behind two deaths", x.behind(person, 3), due[person]);
        }
    }

    private static void behindAnEmptyPad() {
        Check.sentence("BEHIND, with an empty PAD");
        StandingLine x = Scene.threeStand();
        Scene.text(x, "An4");
        x.done();
        Check.due("x", x.behind(0, 0), 10);
        Check.due("y", x.behind(0, 1), 24);
        Check.due("WALKED", x.behind(0, 2), 4);
        Check.due("place", x.behind(0, 3), 0);
    }

    private static void doneActs() {
        Check.sentence("DAYS are DONE (the PAD is empty then): ACTS.");
        Check.due("of an empty PAD", new StandingLine().done(), 0);
        Check.due("of sixty days", Scene.text(new StandingLine(), ".".repeat(60)).done(), 60);
        Check.due("of twenty walks", Scene.text(Scene.threeStand(), "An1As1".repeat(10)).done(), 20);
        Check.due("of each kind", Scene.text(Scene.threeStand(), "An1.BxC>D").done(), 4);
    }

    private static void padIsEmptyThen() {
        Check.sentence("(the PAD is empty then)");
        StandingLine x = Scene.text(Scene.threeStand(), "An1");
        x.done();
        Check.due("told(0)", x.told(0), 0);
        Check.due("fault()", x.fault(), NONE);
        Check.due("wipe()", x.wipe(), 0);
        Check.due("done()", x.done(), 0);
        Check.due("it is done once", x.told(21), 21);
    }

    private static void itIsSoThen() {
        Check.sentence("DONE: it is so then.");
        StandingLine x = Scene.text(Scene.threeStand(), "Ae2.Aw1B>HCx");
        Check.due("not ahead of done()", x.told(1), 7);
        x.done();
        Check.due("told(1)", x.told(1), 129);
        Check.due("told(10)", x.told(10), 0);
        Check.due("told(11)", x.told(11), 7);
        Check.due("told(12)", x.told(12), NONE);
        Check.due("told(20)", x.told(20), 11);
        Check.due("told(22)", x.told(22), 1);
        Check.due("told(90)", x.told(90), 30);
    }

    private static void doneRefused() {
        Check.sentence("done: NO, STATE, likewise.");
        StandingLine x = Scene.text(Scene.threeStand(), "An1Bn");
        Check.due("more must come", x.done(), NO);
        Check.due("told(0)", x.told(0), 5);
        Check.due("told(21)", x.told(21), 20);
        x.say('9');
        x.say('D');
        x.say('x');
        Check.due("some ACT can not be", x.done(), STATE);
        Check.due("told(0)", x.told(0), 8);
        Check.due("the ACTS ahead of it are not done", x.told(21), 20);
        Check.due("nor walked", x.told(22), 0);
    }
}
