import java.util.ArrayList;
import java.util.Arrays;
import java.util.List;
import java.util.TreeMap;
import java.util.regex.Matcher;
import java.util.regex.Pattern;

/** The document said again as plainly as may be, with no care for speed: what StandingLine is compared with. */
final class Model {
    private static final int UNKNOWN = -1, OUTSIDE = -2, STATE = -3, FULL = -4, NO = -5, NONE = -6;
    private static final long GONE = -1000000000000000000L;
    private static final Pattern DAYS = Pattern.compile("([A-H]([nesw][1-9]|x|>[A-H])|\\.)*");
    private static final Pattern ACT = Pattern.compile("\\.|[A-H]([nesw][1-9]|x|>[A-H])");

    private record Point(int x, int y) {
        Point to(int direction, int steps) {
            return switch (direction) {
                case 0 -> new Point(x, y + steps);
                case 1 -> new Point(x + steps, y);
                case 2 -> new Point(x, y - steps);
                default -> new Point(x - steps, y);
            };
        }

        boolean isLand() {
            return 0 <= x && x <= 40 && 0 <= y && y <= 40;
        }

        int code() {
            return 50 * x + y;
        }
    }

    private record Walker(int person, Point at, int walked) {
    }

    private record Sight(Point at, int side) {
    }

    /** Never changed once made: each act gives another. */
    private record Line(List<Walker> row, int west, int east, int reach) {
        int placeOf(int person) {
            for (int i = 0; i < row.size(); i++) {
                if (row.get(i).person() == person) {
                    return i;
                }
            }
            return -1;
        }

        boolean has(int person) {
            return placeOf(person) >= 0;
        }

        Walker who(int person) {
            return row.get(placeOf(person));
        }

        boolean isFree(Point at) {
            return row.stream().noneMatch(walker -> walker.at().equals(at));
        }

        Line withRow(List<Walker> other) {
            return new Line(List.copyOf(other), west, east, reach);
        }

        Line with(Walker walker, int place) {
            List<Walker> other = new ArrayList<>(row);
            other.add(place, walker);
            return withRow(other);
        }

        Line without(int person) {
            List<Walker> other = new ArrayList<>(row);
            other.remove(placeOf(person));
            return withRow(other);
        }

        Line changed(int person, Walker walker) {
            List<Walker> other = new ArrayList<>(row);
            other.set(placeOf(person), walker);
            return withRow(other);
        }

        Line movedTo(int person, Point at) {
            return changed(person, new Walker(person, at, who(person).walked()));
        }

        Line rested() {
            List<Walker> other = new ArrayList<>();
            for (Walker walker : row) {
                other.add(new Walker(walker.person(), walker.at(), 0));
            }
            return withRow(other);
        }

        List<Point> corners() {
            List<Point> corners = new ArrayList<>();
            corners.add(new Point(-1, west));
            row.forEach(walker -> corners.add(walker.at()));
            corners.add(new Point(41, east));
            return corners;
        }

        int south() {
            List<Point> corners = corners();
            int sum = 0;
            for (int i = 0; i + 1 < corners.size(); i++) {
                Point from = corners.get(i);
                Point to = corners.get(i + 1);
                sum += (to.x() - from.x()) * (from.y() + to.y());
            }
            return sum;
        }

        int side(Point at) {
            List<Point> corners = corners();
            int above = 0;
            for (int i = 0; i + 1 < corners.size(); i++) {
                Point a = corners.get(i);
                Point b = corners.get(i + 1);
                if (isBetween(a, b, at)) {
                    return 2;
                }
                Point left = a.x() < b.x() ? a : b;
                Point right = a.x() < b.x() ? b : a;
                if (a.x() != b.x() && left.x() <= at.x() && at.x() < right.x()) {
                    double there = left.y() + (double) (right.y() - left.y()) * (at.x() - left.x()) / (right.x() - left.x());
                    above += there > at.y() ? 1 : 0;
                }
            }
            return above % 2;
        }

        /** On the piece if the way over the point is no detour: by whole numbers, along the same way and not beyond. */
        static boolean isBetween(Point a, Point b, Point at) {
            int ax = at.x() - a.x();
            int ay = at.y() - a.y();
            int bx = b.x() - at.x();
            int by = b.y() - at.y();
            return ax * by == ay * bx && ax * bx >= 0 && ay * by >= 0;
        }

        int pinched() {
            List<Point> corners = corners();
            for (int i = 0; i + 1 < corners.size(); i++) {
                for (int j = i + 1; j + 1 < corners.size(); j++) {
                    if (meet(corners.get(i), corners.get(i + 1), corners.get(j), corners.get(j + 1), j == i + 1)) {
                        return 10 * i + j;
                    }
                }
            }
            return NONE;
        }

        /** Solves a + t (b - a) = c + u (d - c) for t and u in 0 to 1. */
        private static boolean meet(Point a, Point b, Point c, Point d, boolean neighbours) {
            if (neighbours) {
                return isBetween(a, b, d) || isBetween(c, d, a);
            }
            int rx = b.x() - a.x();
            int ry = b.y() - a.y();
            int sx = d.x() - c.x();
            int sy = d.y() - c.y();
            int det = rx * sy - ry * sx;
            if (det == 0) {
                return isBetween(a, b, c) || isBetween(a, b, d) || isBetween(c, d, a) || isBetween(c, d, b);
            }
            int t = ((c.x() - a.x()) * sy - (c.y() - a.y()) * sx) * Integer.signum(det);
            int u = ((c.x() - a.x()) * ry - (c.y() - a.y()) * rx) * Integer.signum(det);
            return 0 <= t && t <= Math.abs(det) && 0 <= u && u <= Math.abs(det);
        }
    }

    private record State(Line line, TreeMap<Integer, Point> villages, List<Sight> sights) {
        State copy() {
            return new State(line, new TreeMap<>(villages), new ArrayList<>(sights));
        }
    }

    private record Judged(Line line, int acts, int failed, int why, int steps) {
    }

    private State now = new State(new Line(List.of(), 20, 20, 20), new TreeMap<>(), new ArrayList<>());
    private final State[] images = new State[2];
    private String pad = "";

    private static boolean within(int number, int least, int greatest) {
        return least <= number && number <= greatest;
    }

    private void nowLine(Line line) {
        now = new State(line, now.villages(), now.sights());
    }

    int stand(int person, int x, int y, int place) {
        Line line = now.line();
        if (!within(person, 0, 7)) {
            return UNKNOWN;
        }
        if (!new Point(x, y).isLand() || !within(place, 0, line.row().size())) {
            return OUTSIDE;
        }
        if (line.has(person) || !line.isFree(new Point(x, y))) {
            return STATE;
        }
        nowLine(line.with(new Walker(person, new Point(x, y), 0), place));
        return line.row().size() + 1;
    }

    int leave(int person) {
        if (!now.line().has(person)) {
            return UNKNOWN;
        }
        nowLine(now.line().without(person));
        return now.line().row().size();
    }

    int set(int which, int v) {
        Line line = now.line();
        if (which == 0 && within(v, 0, 40)) {
            nowLine(new Line(line.row(), v, line.east(), line.reach()));
            return line.west();
        }
        if (which == 1 && within(v, 0, 40)) {
            nowLine(new Line(line.row(), line.west(), v, line.reach()));
            return line.east();
        }
        if (which == 2 && within(v, 0, 99)) {
            nowLine(new Line(line.row(), line.west(), line.east(), v));
            return line.reach();
        }
        return OUTSIDE;
    }

    int village(int village, int x, int y) {
        if (!within(village, 0, 7)) {
            return UNKNOWN;
        }
        if (!new Point(x, y).isLand()) {
            return OUTSIDE;
        }
        now.villages().put(village, new Point(x, y));
        return now.villages().size();
    }

    int raze(int village) {
        return now.villages().remove(village) == null ? UNKNOWN : now.villages().size();
    }

    int say(int sign) {
        if (!within(sign, 33, 126)) {
            return OUTSIDE;
        }
        if (pad.length() == 60) {
            return FULL;
        }
        pad += (char) sign;
        return pad.length();
    }

    int wipe() {
        int before = pad.length();
        pad = "";
        return before;
    }

    int fault() {
        if (DAYS.matcher(pad).matches()) {
            return NONE;
        }
        for (int i = 0; i < pad.length(); i++) {
            Matcher matcher = DAYS.matcher(pad.substring(0, i + 1));
            if (!matcher.matches() && !matcher.hitEnd()) {
                return i;
            }
        }
        return pad.length();
    }

    private static int whyNot(Line line, int person, int direction, int steps) {
        if (!line.has(person)) {
            return 1;
        }
        Point at = line.who(person).at().to(direction, steps);
        if (!at.isLand()) {
            return 2;
        }
        if (!line.isFree(at)) {
            return 3;
        }
        return line.who(person).walked() + steps > line.reach() ? 4 : 0;
    }

    private static Line walk(Line line, int person, int direction, int steps) {
        Walker walker = line.who(person);
        return line.changed(person, new Walker(person, walker.at().to(direction, steps), walker.walked() + steps));
    }

    private Judged judged() {
        Line line = now.line();
        int acts = 0;
        int steps = 0;
        Matcher matcher = ACT.matcher(pad);
        while (matcher.find()) {
            String act = matcher.group();
            int why = 0;
            if (act.equals(".")) {
                line = line.rested();
            } else {
                int person = act.charAt(0) - 'A';
                if (!line.has(person)) {
                    why = 1;
                } else if (act.charAt(1) == 'x') {
                    line = line.without(person);
                } else if (act.charAt(1) == '>') {
                    int heir = act.charAt(2) - 'A';
                    why = line.has(heir) ? 5 : 0;
                    if (why == 0) {
                        line = line.changed(person, new Walker(heir, line.who(person).at(), line.who(person).walked()));
                    }
                } else {
                    int count = Character.digit(act.charAt(2), 10);
                    int direction = "nesw".indexOf(act.charAt(1));
                    why = whyNot(line, person, direction, count);
                    if (why == 0) {
                        line = walk(line, person, direction, count);
                        steps += count;
                    }
                }
            }
            if (why != 0) {
                return new Judged(line, acts, acts, why, steps);
            }
            acts++;
        }
        return new Judged(line, acts, NONE, NONE, steps);
    }

    private int refusal() {
        if (fault() != NONE) {
            return NO;
        }
        return judged().failed() != NONE ? STATE : 0;
    }

    int judge(int what) {
        if (!within(what, 0, 2)) {
            return OUTSIDE;
        }
        if (refusal() == NO) {
            return NO;
        }
        Judged judged = judged();
        if (what == 2) {
            return judged.failed() == NONE ? judged.steps() : STATE;
        }
        return what == 0 ? judged.failed() : judged.why();
    }

    int behind(int person, int what) {
        if (!within(what, 0, 3)) {
            return OUTSIDE;
        }
        if (refusal() != 0) {
            return refusal();
        }
        Line line = judged().line();
        if (!line.has(person)) {
            return UNKNOWN;
        }
        Walker walker = line.who(person);
        return new int[] {walker.at().x(), walker.at().y(), walker.walked(), line.placeOf(person)}[what];
    }

    int side(int x, int y) {
        if (!new Point(x, y).isLand()) {
            return OUTSIDE;
        }
        return refusal() != 0 ? refusal() : judged().line().side(new Point(x, y));
    }

    int south(int what) {
        if (!within(what, 0, 1)) {
            return OUTSIDE;
        }
        if (refusal() != 0) {
            return refusal();
        }
        return what == 0 ? judged().line().south() : judged().line().pinched();
    }

    int lies(int side) {
        if (!within(side, 0, 2)) {
            return OUTSIDE;
        }
        if (refusal() != 0) {
            return refusal();
        }
        Line line = judged().line();
        int bits = 0;
        for (int village : now.villages().keySet()) {
            bits |= line.side(now.villages().get(village)) == side ? 1 << village : 0;
        }
        return bits;
    }

    int done() {
        if (refusal() != 0) {
            return refusal();
        }
        Judged judged = judged();
        nowLine(judged.line());
        pad = "";
        return judged.acts();
    }

    int sway(int x, int y, int side, int what) {
        if (!new Point(x, y).isLand() || !within(side, 0, 2) || !within(what, 0, 2)) {
            return OUTSIDE;
        }
        Line line = now.line();
        List<int[]> found = new ArrayList<>();
        for (Walker walker : line.row()) {
            for (int i = 0; i < 41 * 41; i++) {
                Point at = new Point(i / 41, i % 41);
                if (at.equals(walker.at()) || line.isFree(at)) {
                    if (line.movedTo(walker.person(), at).side(new Point(x, y)) == side) {
                        int steps = Math.abs(at.x() - walker.at().x()) + Math.abs(at.y() - walker.at().y());
                        found.add(new int[] {steps, walker.person(), at.code()});
                    }
                }
            }
        }
        return found.stream().min(Arrays::compare).map(best -> best[what]).orElse(NONE);
    }

    int fair(int what) {
        if (!within(what, 0, 1)) {
            return OUTSIDE;
        }
        Line line = now.line();
        List<int[]> found = new ArrayList<>();
        found.add(new int[] {Math.abs(line.south() - (3360 - line.south())), -1});
        for (Walker walker : line.row()) {
            for (int direction = 0; direction < 4; direction++) {
                Point at = walker.at().to(direction, 1);
                if (at.isLand() && line.isFree(at)) {
                    int south = line.movedTo(walker.person(), at).south();
                    found.add(new int[] {Math.abs(south - (3360 - south)), 10 * walker.person() + direction});
                }
            }
        }
        int[] best = found.stream().min(Arrays::compare).get();
        return what == 0 ? best[0] : best[1] == -1 ? 99 : best[1];
    }

    int cedes(int person) {
        Line line = now.line();
        return line.has(person) ? line.without(person).south() - line.south() + 10000 : UNKNOWN;
    }

    int orders(int what) {
        if (!within(what, 0, 1)) {
            return OUTSIDE;
        }
        if (what == 0) {
            return ordersOf(now.line());
        }
        for (int person = 0; person < 8; person++) {
            if (now.line().has(person) && isSame(now.line().without(person))
                && ordersOf(now.line().without(person)) > 0) {
                return person;
            }
        }
        return NONE;
    }

    private boolean isSame(Line line) {
        return now.villages().values().stream().allMatch(at -> line.side(at) == now.line().side(at));
    }

    private int ordersOf(Line line) {
        if (line.row().isEmpty()) {
            return 1;
        }
        int sum = 0;
        for (Walker walker : line.row()) {
            Line left = line.without(walker.person());
            sum += isSame(left) ? ordersOf(left) : 0;
        }
        return sum;
    }

    int seen(int x, int y, int side) {
        if (!new Point(x, y).isLand() || !within(side, 0, 2)) {
            return OUTSIDE;
        }
        if (now.sights().size() == 8) {
            return FULL;
        }
        now.sights().add(new Sight(new Point(x, y), side));
        return now.sights().size();
    }

    int forget() {
        int before = now.sights().size();
        now.sights().clear();
        return before;
    }

    /** The lines that fit, each with the bit of who moved (0: nobody). */
    private List<Line> fitting(List<Integer> movers) {
        Line line = now.line();
        List<Line> all = new ArrayList<>(List.of(line));
        List<Integer> bits = new ArrayList<>(List.of(0));
        for (Walker walker : line.row()) {
            for (int i = 0; i < 41 * 41; i++) {
                Point at = new Point(i / 41, i % 41);
                int steps = Math.abs(at.x() - walker.at().x()) + Math.abs(at.y() - walker.at().y());
                if (steps <= 3 && line.isFree(at)) {
                    all.add(line.movedTo(walker.person(), at));
                    bits.add(1 << walker.person());
                }
            }
        }
        List<Line> fit = new ArrayList<>();
        for (int i = 0; i < all.size(); i++) {
            Line one = all.get(i);
            if (now.sights().stream().allMatch(sight -> one.side(sight.at()) == sight.side())) {
                fit.add(one);
                movers.add(bits.get(i));
            }
        }
        return fit;
    }

    int moved(int what) {
        if (!within(what, 0, 1)) {
            return OUTSIDE;
        }
        List<Integer> movers = new ArrayList<>();
        int count = fitting(movers).size();
        return what == 0 ? count : movers.stream().reduce(0, (a, b) -> a | b);
    }

    int ask(int what) {
        if (!within(what, 0, 1)) {
            return OUTSIDE;
        }
        List<Line> fit = fitting(new ArrayList<>());
        int best = NONE;
        int least = Integer.MAX_VALUE;
        for (int village : now.villages().keySet()) {
            int most = 0;
            for (int side = 0; side < 3; side++) {
                int told = side;
                most = Math.max(most,
                    (int) fit.stream().filter(one -> one.side(now.villages().get(village)) == told).count());
            }
            if (most < least) {
                best = village;
                least = most;
            }
        }
        return best == NONE || fit.isEmpty() ? NONE : what == 0 ? best : least;
    }

    private static List<Line> nextLines(Line line) {
        List<Line> next = new ArrayList<>(List.of(line));
        for (Walker walker : line.row()) {
            for (int direction = 0; direction < 4; direction++) {
                Point at = walker.at().to(direction, 1);
                if (at.isLand() && line.isFree(at)) {
                    next.add(line.movedTo(walker.person(), at));
                }
            }
        }
        return next;
    }

    int crowns(int n) {
        if (n == 0) {
            return now.line().south();
        }
        if (n == 1) {
            return nextLines(now.line()).stream().mapToInt(Line::south).max().getAsInt();
        }
        if (n == 2) {
            return nextLines(now.line()).stream()
                .mapToInt(line -> nextLines(line).stream().mapToInt(Line::south).min().getAsInt()).max().getAsInt();
        }
        return OUTSIDE;
    }

    long goat(int x, int y, int k, int side, int part) {
        if (!new Point(x, y).isLand() || !within(k, 0, 6) || !within(side, 0, 2) || !within(part, 0, 1)) {
            return GONE + OUTSIDE;
        }
        long all = Math.round(Math.pow(4, k));
        long so = 0;
        for (int way = 0; way < all; way++) {
            Point at = new Point(x, y);
            for (int i = 0; i < k; i++) {
                Point next = at.to(way >> (2 * i) & 3, 1);
                at = next.isLand() ? next : at;
            }
            so += now.line().side(at) == side ? 1 : 0;
        }
        long common = java.math.BigInteger.valueOf(so).gcd(java.math.BigInteger.valueOf(all)).longValue();
        return (part == 0 ? so : all) / common;
    }

    int year(int seed, int m, int what) {
        if (!within(seed, 0, 9999) || !within(m, 1, 99) || !within(what, 0, 2)) {
            return OUTSIDE;
        }
        Line line = now.line();
        long x = seed;
        int steps = 0;
        for (int i = 0; i < m; i++) {
            x = (75 * x + 74) % 65537;
            int person = (int) (x % 8);
            int direction = (int) (x / 8 % 4);
            int count = (int) (1 + x / 32 % 3);
            if (x % 5 == 0) {
                line = line.rested();
            } else if (whyNot(line, person, direction, count) == 0) {
                line = walk(line, person, direction, count);
                steps += count;
            }
        }
        return what == 0 ? line.south() : what == 1 ? steps : line.pinched() == NONE ? 0 : 1;
    }

    int image(int k) {
        if (!within(k, 0, 1)) {
            return OUTSIDE;
        }
        images[k] = now.copy();
        return 1;
    }

    int restore(int k) {
        if (!within(k, 0, 1)) {
            return OUTSIDE;
        }
        if (images[k] == null) {
            return STATE;
        }
        now = images[k].copy();
        return 1;
    }

    int told(int what) {
        Line line = now.line();
        switch (what) {
            case 0:
                return pad.length();
            case 1:
                return line.row().stream().mapToInt(walker -> 1 << walker.person()).sum();
            case 2:
                return line.west();
            case 3:
                return line.east();
            case 4:
                return line.reach();
            case 5:
                return now.villages().keySet().stream().mapToInt(village -> 1 << village).sum();
            case 6:
                return now.sights().size();
            default:
                break;
        }
        if (within(what, 10, 17)) {
            return what - 10 < line.row().size() ? line.row().get(what - 10).person() : NONE;
        }
        for (Walker walker : line.row()) {
            int base = 10 * (2 + walker.person());
            if (what == base) {
                return walker.at().x();
            }
            if (what == base + 1) {
                return walker.at().y();
            }
            if (what == base + 2) {
                return walker.walked();
            }
        }
        Point village = now.villages().get(what - 100);
        return village == null ? OUTSIDE : village.code();
    }
}
