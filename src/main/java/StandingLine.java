/** A border that is whoever stands on it: persons in a row, the line through them, and what lies behind. */
public final class StandingLine {
    public static final int UNKNOWN = -1, OUTSIDE = -2, STATE = -3, FULL = -4, NO = -5, NONE = -6;
    public static final long GONE = -1000000000000000000L;

    private static final int PERSONS = 8;
    private static final int VILLAGES = 8;
    private static final int SIGHTS = 8;
    private static final int SIGNS = 60;
    private static final int IMAGES = 2;
    /** The greatest x and y of the land. */
    private static final int EDGE = 40;
    private static final int TWICE_LAND = 3360;
    private static final int MIDDLE = 20;
    private static final int MOST_REACH = 99;
    private static final int SIDES = 3;
    /** The side of a point that is on the line itself. */
    private static final int ON_LINE = 2;
    private static final int NOT_REFUSED = 0;

    private static final int DIRECTIONS = 4;
    private static final int[] EAST_BY = {0, 1, 0, -1};
    private static final int[] NORTH_BY = {1, 0, -1, 0};

    private static final int POSSIBLE = 0;
    private static final int NOT_THERE = 1;
    private static final int OFF_LAND = 2;
    private static final int TAKEN = 3;
    private static final int TOO_FAR = 4;
    private static final int HEIR_THERE = 5;

    private static final int NO_STEP = 99;
    private static final int CEDES_BASE = 10000;
    private static final int MOST_TURNS = 2;
    private static final int MOST_SEED = 9999;
    private static final int MOST_YEAR_ACTS = 99;

    private final Book book = new Book();
    private final Book[] images = {new Book(), new Book()};
    private final Pad pad = new Pad();
    private final Days days = new Days();
    /** What is tried is tried on this copy, so that a call that only asks leaves the book as it is. */
    private final Border trial = new Border();
    private final Sway sways = new Sway();
    private final Deaths deaths = new Deaths();
    private final Moves moves = new Moves();
    private final Stray stray = new Stray();
    private final Year drawn = new Year();

    public StandingLine() {
    }

    public int stand(int person, int x, int y, int place) {
        Border line = book.line;
        if (!isPerson(person)) {
            return UNKNOWN;
        }
        if (!isLand(x, y) || place < 0 || place > line.count) {
            return OUTSIDE;
        }
        if (line.holds(person) || line.isTaken(x, y, person)) {
            return STATE;
        }
        line.enter(person, x, y, place);
        return line.count;
    }

    public int leave(int person) {
        if (!book.line.holds(person)) {
            return UNKNOWN;
        }
        book.line.drop(person);
        return book.line.count;
    }

    public int set(int which, int v) {
        if (which < 0 || which > 2 || v < 0 || v > (which == 2 ? MOST_REACH : EDGE)) {
            return OUTSIDE;
        }
        Border line = book.line;
        int before = line.measure(which);
        if (which == 0) {
            line.west = v;
        } else if (which == 1) {
            line.east = v;
        } else {
            line.reach = v;
        }
        return before;
    }

    public int village(int village, int x, int y) {
        if (village < 0 || village >= VILLAGES) {
            return UNKNOWN;
        }
        if (!isLand(x, y)) {
            return OUTSIDE;
        }
        book.villages.put(village, x, y);
        return Integer.bitCount(book.villages.bits);
    }

    public int raze(int village) {
        if (!book.villages.holds(village)) {
            return UNKNOWN;
        }
        book.villages.bits &= ~(1 << village);
        return Integer.bitCount(book.villages.bits);
    }

    public int say(int sign) {
        if (sign < 33 || sign > 126) {
            return OUTSIDE;
        }
        if (pad.length >= SIGNS) {
            return FULL;
        }
        pad.add(sign);
        return pad.length;
    }

    public int wipe() {
        int before = pad.length;
        pad.length = 0;
        return before;
    }

    public int fault() {
        return pad.firstFault();
    }

    public int judge(int what) {
        if (what < 0 || what > 2) {
            return OUTSIDE;
        }
        int refusal = tryDays();
        if (refusal == NO || (refusal == STATE && what == 2)) {
            return refusal;
        }
        return what == 0 ? days.failed : what == 1 ? days.why : days.steps;
    }

    public int behind(int person, int what) {
        if (what < 0 || what > 3) {
            return OUTSIDE;
        }
        int refusal = tryDays();
        if (refusal != NOT_REFUSED) {
            return refusal;
        }
        int place = trial.placeOf(person);
        if (place == NONE) {
            return UNKNOWN;
        }
        return what == 3 ? place : trial.factOf(person, what);
    }

    public int side(int x, int y) {
        if (!isLand(x, y)) {
            return OUTSIDE;
        }
        int refusal = tryDays();
        return refusal != NOT_REFUSED ? refusal : trial.sideOf(x, y);
    }

    public int south(int what) {
        if (what < 0 || what > 1) {
            return OUTSIDE;
        }
        int refusal = tryDays();
        if (refusal != NOT_REFUSED) {
            return refusal;
        }
        return what == 0 ? trial.twiceSouth() : trial.firstPinch();
    }

    public int lies(int side) {
        if (!isSide(side)) {
            return OUTSIDE;
        }
        int refusal = tryDays();
        return refusal != NOT_REFUSED ? refusal : book.villages.bitsOn(trial, side);
    }

    public int done() {
        int refusal = tryDays();
        if (refusal != NOT_REFUSED) {
            return refusal;
        }
        book.line.copyFrom(trial);
        pad.length = 0;
        return days.acts;
    }

    public int sway(int x, int y, int side, int what) {
        if (!isLand(x, y) || !isSide(side) || what < 0 || what > 2) {
            return OUTSIDE;
        }
        trial.copyFrom(book.line);
        sways.find(trial, x, y, side);
        if (!sways.isFound()) {
            return NONE;
        }
        return what == 0 ? sways.steps : what == 1 ? sways.who : sways.where;
    }

    public int fair(int what) {
        if (what < 0 || what > 1) {
            return OUTSIDE;
        }
        trial.copyFrom(book.line);
        int best = trial.unfairness();
        int step = NO_STEP;
        for (int person = 0; person < PERSONS; person++) {
            for (int direction = 0; direction < DIRECTIONS; direction++) {
                if (trial.canStep(person, direction)) {
                    trial.shift(person, direction, 1);
                    int difference = trial.unfairness();
                    trial.shift(person, direction, -1);
                    if (difference < best) {
                        best = difference;
                        step = 10 * person + direction;
                    }
                }
            }
        }
        return what == 0 ? best : step;
    }

    public int cedes(int person) {
        if (!book.line.holds(person)) {
            return UNKNOWN;
        }
        trial.copyFrom(book.line);
        trial.drop(person);
        return trial.twiceSouth() - book.line.twiceSouth() + CEDES_BASE;
    }

    public int orders(int what) {
        if (what < 0 || what > 1) {
            return OUTSIDE;
        }
        deaths.count(book, trial);
        return what == 0 ? deaths.total : deaths.first;
    }

    public int seen(int x, int y, int side) {
        if (!isLand(x, y) || !isSide(side)) {
            return OUTSIDE;
        }
        if (book.sights.count >= SIGHTS) {
            return FULL;
        }
        book.sights.add(x, y, side);
        return book.sights.count;
    }

    public int forget() {
        int before = book.sights.count;
        book.sights.count = 0;
        return before;
    }

    public int moved(int what) {
        if (what < 0 || what > 1) {
            return OUTSIDE;
        }
        moves.gather(book, trial);
        return what == 0 ? moves.count : moves.persons;
    }

    public int ask(int what) {
        if (what < 0 || what > 1) {
            return OUTSIDE;
        }
        moves.gather(book, trial);
        int village = moves.bestToAsk(book.villages);
        if (village == NONE) {
            return NONE;
        }
        return what == 0 ? village : moves.mostLeft(village);
    }

    public int crowns(int n) {
        if (n < 0 || n > MOST_TURNS) {
            return OUTSIDE;
        }
        trial.copyFrom(book.line);
        return playTurns(trial, 0, n);
    }

    public long goat(int x, int y, int k, int side, int part) {
        if (!isLand(x, y) || k < 0 || k > Stray.MOST_STEPS || !isSide(side) || part < 0 || part > 1) {
            return GONE + OUTSIDE;
        }
        stray.walk(x, y, k);
        int upper = stray.waysTo(book.line, side);
        int halvings = 2 * k;
        while (halvings > 0 && upper % 2 == 0) {
            upper /= 2;
            halvings--;
        }
        return part == 0 ? upper : 1 << halvings;
    }

    public int year(int seed, int m, int what) {
        if (seed < 0 || seed > MOST_SEED || m < 1 || m > MOST_YEAR_ACTS || what < 0 || what > 2) {
            return OUTSIDE;
        }
        trial.copyFrom(book.line);
        drawn.pass(trial, seed, m);
        if (what == 0) {
            return trial.twiceSouth();
        }
        if (what == 1) {
            return drawn.steps;
        }
        return trial.firstPinch() == NONE ? 0 : 1;
    }

    public int image(int k) {
        if (k < 0 || k >= IMAGES) {
            return OUTSIDE;
        }
        images[k].copyFrom(book);
        images[k].isKept = true;
        return 1;
    }

    public int restore(int k) {
        if (k < 0 || k >= IMAGES) {
            return OUTSIDE;
        }
        if (!images[k].isKept) {
            return STATE;
        }
        book.copyFrom(images[k]);
        return 1;
    }

    public int told(int what) {
        if (what == 0) {
            return pad.length;
        }
        if (what == 1) {
            return book.line.bitsOfPersons();
        }
        if (what >= 2 && what <= 4) {
            return book.line.measure(what - 2);
        }
        if (what == 5) {
            return book.villages.bits;
        }
        if (what == 6) {
            return book.sights.count;
        }
        if (what >= 10 && what < 10 + PERSONS) {
            return book.line.whoInPlace(what - 10);
        }
        if (what >= 20 && what < 100) {
            return tellPerson(what / 10 - 2, what % 10);
        }
        if (what >= 100 && what < 100 + VILLAGES) {
            return tellVillage(what - 100);
        }
        return OUTSIDE;
    }

    private int tellPerson(int person, int what) {
        if (what > 2 || !book.line.holds(person)) {
            return OUTSIDE;
        }
        return book.line.factOf(person, what);
    }

    private int tellVillage(int village) {
        if (!book.villages.holds(village)) {
            return OUTSIDE;
        }
        return pointCode(book.villages.xs[village], book.villages.ys[village]);
    }

    /** Passes the days of the pad on the trial line; answers why that is refused, or NOT_REFUSED. */
    private int tryDays() {
        if (pad.firstFault() != NONE) {
            return NO;
        }
        trial.copyFrom(book.line);
        days.pass(pad, trial);
        return days.failed == NONE ? NOT_REFUSED : STATE;
    }

    private static int playTurns(Border line, int turn, int turns) {
        if (turn >= turns || turn >= MOST_TURNS) {
            return line.twiceSouth();
        }
        int best = playTurns(line, turn + 1, turns);
        for (int person = 0; person < PERSONS; person++) {
            for (int direction = 0; direction < DIRECTIONS; direction++) {
                if (line.canStep(person, direction)) {
                    line.shift(person, direction, 1);
                    int end = playTurns(line, turn + 1, turns);
                    line.shift(person, direction, -1);
                    best = turn % 2 == 0 ? Math.max(best, end) : Math.min(best, end);
                }
            }
        }
        return best;
    }

    private static boolean isPerson(int person) {
        return person >= 0 && person < PERSONS;
    }

    private static boolean isLand(int x, int y) {
        return x >= 0 && x <= EDGE && y >= 0 && y <= EDGE;
    }

    private static boolean isSide(int side) {
        return side >= 0 && side < SIDES;
    }

    private static int pointCode(int x, int y) {
        return 50 * x + y;
    }

    /** The persons in their row and the line through them. Corner 0 is the west end; piece i goes from corner i on. */
    private static final class Border {
        final int[] xs = new int[PERSONS];
        final int[] ys = new int[PERSONS];
        final int[] walked = new int[PERSONS];
        final int[] row = new int[PERSONS];
        int count = 0;
        int west = MIDDLE;
        int east = MIDDLE;
        int reach = MIDDLE;

        void copyFrom(Border other) {
            System.arraycopy(other.xs, 0, xs, 0, PERSONS);
            System.arraycopy(other.ys, 0, ys, 0, PERSONS);
            System.arraycopy(other.walked, 0, walked, 0, PERSONS);
            System.arraycopy(other.row, 0, row, 0, PERSONS);
            count = other.count;
            west = other.west;
            east = other.east;
            reach = other.reach;
        }

        int placeOf(int person) {
            for (int i = 0; i < count; i++) {
                if (row[i] == person) {
                    return i;
                }
            }
            return NONE;
        }

        boolean holds(int person) {
            return placeOf(person) != NONE;
        }

        int whoInPlace(int place) {
            return place >= 0 && place < count ? row[place] : NONE;
        }

        int bitsOfPersons() {
            int bits = 0;
            for (int i = 0; i < count; i++) {
                bits |= 1 << row[i];
            }
            return bits;
        }

        /** WEST (0), EAST (1) or REACH (2). */
        int measure(int which) {
            return which == 0 ? west : which == 1 ? east : reach;
        }

        /** x (0), y (1) or WALKED (2) of a person who is there. */
        int factOf(int person, int what) {
            return what == 0 ? xs[person] : what == 1 ? ys[person] : walked[person];
        }

        boolean isTaken(int x, int y, int exceptBy) {
            for (int i = 0; i < count; i++) {
                int person = row[i];
                if (person != exceptBy && xs[person] == x && ys[person] == y) {
                    return true;
                }
            }
            return false;
        }

        void enter(int person, int x, int y, int place) {
            if (count >= PERSONS) {
                return;
            }
            for (int i = count; i > place; i--) {
                row[i] = row[i - 1];
            }
            row[place] = person;
            count++;
            put(person, x, y);
            walked[person] = 0;
        }

        void drop(int person) {
            int place = placeOf(person);
            if (place == NONE) {
                return;
            }
            count--;
            for (int i = place; i < count; i++) {
                row[i] = row[i + 1];
            }
        }

        void put(int person, int x, int y) {
            xs[person] = x;
            ys[person] = y;
        }

        void inherit(int person, int heir) {
            int place = placeOf(person);
            if (place == NONE || !isPerson(heir)) {
                return;
            }
            row[place] = heir;
            put(heir, xs[person], ys[person]);
            walked[heir] = walked[person];
        }

        void endDay() {
            for (int i = 0; i < PERSONS; i++) {
                walked[i] = 0;
            }
        }

        int whyNoWalk(int person, int direction, int steps) {
            if (placeOf(person) == NONE) {
                return NOT_THERE;
            }
            int x = xs[person] + steps * EAST_BY[direction];
            int y = ys[person] + steps * NORTH_BY[direction];
            if (!isLand(x, y)) {
                return OFF_LAND;
            }
            if (isTaken(x, y, person)) {
                return TAKEN;
            }
            return walked[person] + steps > reach ? TOO_FAR : POSSIBLE;
        }

        /** One step that fair and crowns may take: how far somebody walked is no matter to them. */
        boolean canStep(int person, int direction) {
            int why = whyNoWalk(person, direction, 1);
            return why == POSSIBLE || why == TOO_FAR;
        }

        void shift(int person, int direction, int steps) {
            xs[person] += steps * EAST_BY[direction];
            ys[person] += steps * NORTH_BY[direction];
        }

        void walk(int person, int direction, int steps) {
            shift(person, direction, steps);
            walked[person] += steps;
        }

        int pieces() {
            return count + 1;
        }

        int cornerX(int corner) {
            return corner <= 0 ? -1 : corner > count ? EDGE + 1 : xs[row[corner - 1]];
        }

        int cornerY(int corner) {
            return corner <= 0 ? west : corner > count ? east : ys[row[corner - 1]];
        }

        int twiceSouth() {
            int sum = 0;
            for (int i = 0; i <= count; i++) {
                sum += (cornerX(i + 1) - cornerX(i)) * (cornerY(i) + cornerY(i + 1));
            }
            return sum;
        }

        int unfairness() {
            return Math.abs(TWICE_LAND - 2 * twiceSouth());
        }

        int sideOf(int x, int y) {
            return sideAmong(x, y, 0, pieces());
        }

        /** The side of a point, if there were only the pieces from one on, but not the one told as end. */
        int sideAmong(int x, int y, int from, int end) {
            int sum = 0;
            int fromX = cornerX(from);
            int fromY = cornerY(from);
            for (int i = from; i < end; i++) {
                int toX = cornerX(i + 1);
                int toY = cornerY(i + 1);
                int one = sideOfPiece(fromX, fromY, toX, toY, x, y);
                if (one == ON_LINE) {
                    return ON_LINE;
                }
                sum ^= one;
                fromX = toX;
                fromY = toY;
            }
            return sum;
        }

        static int joinSides(int a, int b) {
            return a == ON_LINE || b == ON_LINE ? ON_LINE : a ^ b;
        }

        /** ON_LINE if the point is on the piece, 1 if the piece lies straight to the north of it, else 0. */
        static int sideOfPiece(int fromX, int fromY, int toX, int toY, int x, int y) {
            if ((x - fromX) * (x - toX) > 0) {
                return 0;
            }
            int turn = (toX - fromX) * (y - fromY) - (toY - fromY) * (x - fromX);
            if (turn == 0 && (y - fromY) * (y - toY) <= 0) {
                return ON_LINE;
            }
            if (x >= fromX && x >= toX) {
                return 0;
            }
            return (fromX < toX ? turn < 0 : turn > 0) ? 1 : 0;
        }

        int firstPinch() {
            for (int i = 0; i < count; i++) {
                if (foldsBack(i + 1)) {
                    return 10 * i + i + 1;
                }
                for (int j = i + 2; j <= count; j++) {
                    if (meet(i, j)) {
                        return 10 * i + j;
                    }
                }
            }
            return NONE;
        }

        /** Neighbours have more than their common corner in common if both leave it the same way. */
        boolean foldsBack(int corner) {
            int backX = cornerX(corner - 1) - cornerX(corner);
            int backY = cornerY(corner - 1) - cornerY(corner);
            int onX = cornerX(corner + 1) - cornerX(corner);
            int onY = cornerY(corner + 1) - cornerY(corner);
            return backX * onY == backY * onX && backX * onX + backY * onY > 0;
        }

        boolean meet(int i, int j) {
            return isCornerOn(i, j) || isCornerOn(i, j + 1) || isCornerOn(j, i) || isCornerOn(j, i + 1)
                || (parts(i, j) && parts(j, i));
        }

        boolean isCornerOn(int piece, int corner) {
            return sideAmong(cornerX(corner), cornerY(corner), piece, piece + 1) == ON_LINE;
        }

        /** Whether the two ends of the other piece are on different sides of this one, drawn on without end. */
        boolean parts(int piece, int other) {
            return turnTo(piece, other) * turnTo(piece, other + 1) < 0;
        }

        int turnTo(int piece, int corner) {
            int fromX = cornerX(piece);
            int fromY = cornerY(piece);
            int byX = cornerX(piece + 1) - fromX;
            int byY = cornerY(piece + 1) - fromY;
            return Integer.signum(byX * (cornerY(corner) - fromY) - byY * (cornerX(corner) - fromX));
        }
    }

    private static final class Villages {
        final int[] xs = new int[VILLAGES];
        final int[] ys = new int[VILLAGES];
        int bits = 0;

        void copyFrom(Villages other) {
            System.arraycopy(other.xs, 0, xs, 0, VILLAGES);
            System.arraycopy(other.ys, 0, ys, 0, VILLAGES);
            bits = other.bits;
        }

        boolean holds(int village) {
            return village >= 0 && village < VILLAGES && (bits & (1 << village)) != 0;
        }

        void put(int village, int x, int y) {
            xs[village] = x;
            ys[village] = y;
            bits |= 1 << village;
        }

        int bitsOn(Border line, int side) {
            int on = 0;
            for (int i = 0; i < VILLAGES; i++) {
                if (holds(i) && line.sideOf(xs[i], ys[i]) == side) {
                    on |= 1 << i;
                }
            }
            return on;
        }
    }

    private static final class Sights {
        final int[] xs = new int[SIGHTS];
        final int[] ys = new int[SIGHTS];
        final int[] sides = new int[SIGHTS];
        int count = 0;

        void copyFrom(Sights other) {
            System.arraycopy(other.xs, 0, xs, 0, SIGHTS);
            System.arraycopy(other.ys, 0, ys, 0, SIGHTS);
            System.arraycopy(other.sides, 0, sides, 0, SIGHTS);
            count = other.count;
        }

        void add(int x, int y, int side) {
            if (count >= SIGHTS) {
                return;
            }
            xs[count] = x;
            ys[count] = y;
            sides[count] = side;
            count++;
        }

        boolean fit(Border line) {
            for (int i = 0; i < count; i++) {
                if (line.sideOf(xs[i], ys[i]) != sides[i]) {
                    return false;
                }
            }
            return true;
        }
    }

    /** All that an image keeps. */
    private static final class Book {
        final Border line = new Border();
        final Villages villages = new Villages();
        final Sights sights = new Sights();
        boolean isKept = false;

        void copyFrom(Book other) {
            line.copyFrom(other.line);
            villages.copyFrom(other.villages);
            sights.copyFrom(other.sights);
        }
    }

    private static final class Pad {
        private static final int ACT = 0;
        private static final int DEED = 1;
        private static final int DIGIT = 2;
        private static final int HEIR = 3;
        private static final int NOTHING = 4;

        final int[] signs = new int[SIGNS];
        int length = 0;

        void add(int sign) {
            if (length < SIGNS) {
                signs[length] = sign;
                length++;
            }
        }

        int signAt(int place) {
            return place >= 0 && place < length ? signs[place] : 0;
        }

        int firstFault() {
            int due = ACT;
            for (int i = 0; i < length; i++) {
                due = dueBehind(due, signs[i]);
                if (due == NOTHING) {
                    return i;
                }
            }
            return due == ACT ? NONE : length;
        }

        /** What must come next, or NOTHING where this sign can not stand for what was due. */
        static int dueBehind(int due, int sign) {
            if (due == ACT) {
                return sign == '.' ? ACT : isLetter(sign) ? DEED : NOTHING;
            }
            if (due == DEED) {
                return sign == 'x' ? ACT : sign == '>' ? HEIR : directionOf(sign) != NONE ? DIGIT : NOTHING;
            }
            boolean fits = due == DIGIT ? sign >= '1' && sign <= '9' : isLetter(sign);
            return fits ? ACT : NOTHING;
        }

        static boolean isLetter(int sign) {
            return isPerson(sign - 'A');
        }

        static int directionOf(int sign) {
            switch (sign) {
                case 'n':
                    return 0;
                case 'e':
                    return 1;
                case 's':
                    return 2;
                case 'w':
                    return 3;
                default:
                    return NONE;
            }
        }
    }

    /** The acts of a pad without a fault, passed on a line one by one up to the first that can not be. */
    private static final class Days {
        int acts;
        int steps;
        int failed;
        int why;

        void pass(Pad pad, Border line) {
            acts = 0;
            steps = 0;
            failed = NONE;
            why = NONE;
            int at = 0;
            while (at < pad.length && acts < SIGNS) {
                int reason = passAct(pad, at, line);
                if (reason != POSSIBLE) {
                    failed = acts;
                    why = reason;
                    return;
                }
                acts++;
                at += signsOfAct(pad, at);
            }
        }

        static int signsOfAct(Pad pad, int at) {
            if (pad.signAt(at) == '.') {
                return 1;
            }
            return pad.signAt(at + 1) == 'x' ? 2 : 3;
        }

        int passAct(Pad pad, int at, Border line) {
            if (pad.signAt(at) == '.') {
                line.endDay();
                return POSSIBLE;
            }
            int person = pad.signAt(at) - 'A';
            int deed = pad.signAt(at + 1);
            if (deed == 'x') {
                return passDeath(line, person);
            }
            if (deed == '>') {
                return passHeir(line, person, pad.signAt(at + 2) - 'A');
            }
            return passWalk(line, person, Pad.directionOf(deed), pad.signAt(at + 2) - '0');
        }

        static int passDeath(Border line, int person) {
            if (!line.holds(person)) {
                return NOT_THERE;
            }
            line.drop(person);
            return POSSIBLE;
        }

        static int passHeir(Border line, int person, int heir) {
            if (!line.holds(person)) {
                return NOT_THERE;
            }
            if (line.holds(heir)) {
                return HEIR_THERE;
            }
            line.inherit(person, heir);
            return POSSIBLE;
        }

        int passWalk(Border line, int person, int direction, int count) {
            if (direction == NONE) {
                return NOT_THERE;
            }
            int reason = line.whyNoWalk(person, direction, count);
            if (reason == POSSIBLE) {
                line.walk(person, direction, count);
                steps += count;
            }
            return reason;
        }
    }

    /** The least walk of one person by which a point comes to a side. */
    private static final class Sway {
        /** More than from one corner of the land to the other. */
        private static final int TOO_MANY = 2 * EDGE + 1;

        int steps;
        int who;
        int where;

        boolean isFound() {
            return steps < TOO_MANY;
        }

        void find(Border line, int x, int y, int side) {
            steps = TOO_MANY;
            for (int person = 0; person < PERSONS; person++) {
                int place = line.placeOf(person);
                if (place != NONE) {
                    tryPerson(line, place, x, y, side);
                }
            }
        }

        /** Only the two pieces at the person change with the walk, so what the others give is looked up once. */
        void tryPerson(Border line, int place, int x, int y, int side) {
            int person = line.row[place];
            int homeX = line.xs[person];
            int homeY = line.ys[person];
            int others = Border.joinSides(line.sideAmong(x, y, 0, place),
                line.sideAmong(x, y, place + 2, line.pieces()));
            for (int toX = 0; toX <= EDGE; toX++) {
                for (int toY = 0; toY <= EDGE; toY++) {
                    int far = Math.abs(toX - homeX) + Math.abs(toY - homeY);
                    if (far < steps && !line.isTaken(toX, toY, person)) {
                        line.put(person, toX, toY);
                        if (Border.joinSides(others, line.sideAmong(x, y, place, place + 2)) == side) {
                            steps = far;
                            who = person;
                            where = pointCode(toX, toY);
                        }
                    }
                }
            }
            line.put(person, homeX, homeY);
        }
    }

    /** The orders in which all may die, counted by who still stands. */
    private static final class Deaths {
        final int[] ways = new int[1 << PERSONS];
        int total;
        int first;

        void count(Book book, Border trial) {
            int all = book.line.bitsOfPersons();
            int north = book.villages.bitsOn(book.line, 0);
            int south = book.villages.bitsOn(book.line, 1);
            for (int left = 0; left <= all; left++) {
                if ((left & ~all) == 0) {
                    keepOnly(book.line, trial, left);
                    boolean fits = book.villages.bitsOn(trial, 0) == north
                        && book.villages.bitsOn(trial, 1) == south;
                    ways[left] = !fits ? 0 : left == 0 ? 1 : waysBehindDeath(left);
                }
            }
            total = ways[all];
            first = firstToDie(all);
        }

        static void keepOnly(Border from, Border to, int left) {
            to.copyFrom(from);
            for (int person = 0; person < PERSONS; person++) {
                if ((left & (1 << person)) == 0) {
                    to.drop(person);
                }
            }
        }

        int waysBehindDeath(int left) {
            int sum = 0;
            for (int person = 0; person < PERSONS; person++) {
                int bit = 1 << person;
                if ((left & bit) != 0) {
                    sum += ways[left & ~bit];
                }
            }
            return sum;
        }

        int firstToDie(int all) {
            for (int person = 0; person < PERSONS; person++) {
                int bit = 1 << person;
                if ((all & bit) != 0 && ways[all & ~bit] > 0) {
                    return person;
                }
            }
            return NONE;
        }
    }

    /** The moves that fit all sights, and how many of them leave each village on each side. */
    private static final class Moves {
        private static final int FARTHEST = 3;

        final int[] left = new int[VILLAGES * SIDES];
        int count;
        int persons;

        void gather(Book book, Border trial) {
            count = 0;
            persons = 0;
            for (int i = 0; i < VILLAGES * SIDES; i++) {
                left[i] = 0;
            }
            trial.copyFrom(book.line);
            if (book.sights.fit(trial)) {
                take(book.villages, trial, 0);
            }
            for (int person = 0; person < PERSONS; person++) {
                if (trial.holds(person)) {
                    gatherOf(book, trial, person);
                }
            }
        }

        void gatherOf(Book book, Border trial, int person) {
            int homeX = trial.xs[person];
            int homeY = trial.ys[person];
            for (int byX = -FARTHEST; byX <= FARTHEST; byX++) {
                int most = FARTHEST - Math.abs(byX);
                for (int byY = -most; byY <= most; byY++) {
                    boolean stays = byX == 0 && byY == 0;
                    int x = homeX + byX;
                    int y = homeY + byY;
                    if (!stays && isLand(x, y) && !trial.isTaken(x, y, person)) {
                        trial.put(person, x, y);
                        if (book.sights.fit(trial)) {
                            take(book.villages, trial, 1 << person);
                        }
                    }
                }
            }
            trial.put(person, homeX, homeY);
        }

        void take(Villages villages, Border trial, int mover) {
            count++;
            persons |= mover;
            for (int i = 0; i < VILLAGES; i++) {
                if (villages.holds(i)) {
                    left[SIDES * i + trial.sideOf(villages.xs[i], villages.ys[i])]++;
                }
            }
        }

        int mostLeft(int village) {
            int at = SIDES * village;
            return Math.max(left[at], Math.max(left[at + 1], left[at + 2]));
        }

        int bestToAsk(Villages villages) {
            int best = NONE;
            if (count == 0) {
                return best;
            }
            for (int i = 0; i < VILLAGES; i++) {
                if (villages.holds(i) && (best == NONE || mostLeft(i) < mostLeft(best))) {
                    best = i;
                }
            }
            return best;
        }
    }

    /** In how many of all its ways a goat comes to each point, told from where it was. */
    private static final class Stray {
        static final int MOST_STEPS = 6;
        private static final int WIDTH = 2 * MOST_STEPS + 1;

        final int[] ways = new int[WIDTH * WIDTH];
        final int[] before = new int[WIDTH * WIDTH];
        int startX;
        int startY;

        static int at(int byX, int byY) {
            return (byX + MOST_STEPS) * WIDTH + byY + MOST_STEPS;
        }

        void walk(int x, int y, int steps) {
            startX = x;
            startY = y;
            clearWays();
            ways[at(0, 0)] = 1;
            for (int step = 0; step < steps && step < MOST_STEPS; step++) {
                System.arraycopy(ways, 0, before, 0, WIDTH * WIDTH);
                clearWays();
                spread(step);
            }
        }

        void clearWays() {
            for (int i = 0; i < WIDTH * WIDTH; i++) {
                ways[i] = 0;
            }
        }

        void spread(int farthest) {
            for (int byX = -farthest; byX <= farthest; byX++) {
                for (int byY = -farthest; byY <= farthest; byY++) {
                    int here = before[at(byX, byY)];
                    if (here > 0) {
                        spreadFrom(byX, byY, here);
                    }
                }
            }
        }

        void spreadFrom(int byX, int byY, int here) {
            for (int i = 0; i < DIRECTIONS; i++) {
                int nextX = byX + EAST_BY[i];
                int nextY = byY + NORTH_BY[i];
                boolean goes = isLand(startX + nextX, startY + nextY);
                ways[goes ? at(nextX, nextY) : at(byX, byY)] += here;
            }
        }

        int waysTo(Border line, int side) {
            int sum = 0;
            for (int byX = -MOST_STEPS; byX <= MOST_STEPS; byX++) {
                for (int byY = -MOST_STEPS; byY <= MOST_STEPS; byY++) {
                    int here = ways[at(byX, byY)];
                    if (here > 0 && line.sideOf(startX + byX, startY + byY) == side) {
                        sum += here;
                    }
                }
            }
            return sum;
        }
    }

    /** A year by draws. */
    private static final class Year {
        int steps;

        void pass(Border line, int seed, int acts) {
            steps = 0;
            int x = seed;
            for (int i = 0; i < acts; i++) {
                x = (75 * x + 74) % 65537;
                if (x % 5 == 0) {
                    line.endDay();
                } else {
                    walkIfPossible(line, x % 8, x / 8 % DIRECTIONS, 1 + x / 32 % 3);
                }
            }
        }

        void walkIfPossible(Border line, int person, int direction, int count) {
            if (line.whyNoWalk(person, direction, count) == POSSIBLE) {
                line.walk(person, direction, count);
                steps += count;
            }
        }
    }
}
