import java.util.ArrayDeque;
import java.util.ArrayList;
import java.util.Arrays;
import java.util.HashMap;
import java.util.HashSet;
import java.util.List;
import java.util.Map;
import java.util.NoSuchElementException;
import java.util.Set;

/** The document again, as slowly and as directly as it can be said: what OddHay is compared with. */
final class Model {
    static final int NONE = -1;
    private static final Set<String> WORDS = Set.of("line", "hay", "church", "law", "odd", "round", "left", "edge",
        "his", "parish", "heirs", "n", "e", "s", "w", "point", "on");

    /** A text that is not as told. */
    private static final class Fault extends Exception {
        private static final long serialVersionUID = 1L;
        final int kind;
        final int place;

        Fault(int kind, int place) {
            this.kind = kind;
            this.place = place;
        }
    }

    record Token(char kind, int start, String text) {
        int number() {
            return Integer.parseInt(text);
        }
    }

    record Place(int x, int y) {
    }

    record Hay(String name, int x, int y, int loads) {
    }

    /** Never changed: each act makes a new one. */
    record Parish(List<String> names, List<List<Place>> lines, List<Hay> hays, Place church, int law, int edge,
        List<Integer> heirs, int moved) {
        Parish with(int line, List<Place> corners, int more) {
            List<List<Place>> all = new ArrayList<>(lines);
            all.set(line, List.copyOf(corners));
            return new Parish(names, all, hays, church, law, edge, heirs, moved + more);
        }
    }

    private List<Integer> tape = new ArrayList<>();
    private Parish now = new Parish(List.of(), List.of(), List.of(), new Place(0, 0), 0, 0, List.of(0, 1, 2, 3), 0);
    private final ArrayDeque<Parish> undo = new ArrayDeque<>();
    private final Parish[] images = new Parish[2];
    private int fault;
    private int wrong = NONE;
    private int[] walked = {NONE, NONE, NONE};
    private List<int[]> way;
    private int ways = NONE;
    private int[] sides = {NONE, NONE, NONE, NONE};
    private int[] paced = {-1001, -1001, -1001, -1001};

    // ---- the tape

    int feed(int a, int b, int c, int d, int e) {
        if (tape.size() + 20 > 940) {
            return NONE;
        }
        for (int number : new int[] {a, b, c, d, e}) {
            for (int k = 3; k >= 0; k--) {
                tape.add(number >> 8 * k & 0xff);
            }
        }
        return tape.size();
    }

    boolean end(int n) {
        if (n < 0 || n > tape.size()) {
            return false;
        }
        tape = new ArrayList<>(tape.subList(0, n));
        return true;
    }

    private List<Integer> takeTape() {
        List<Integer> taken = tape;
        tape = new ArrayList<>();
        return taken;
    }

    // ---- texts

    /** All TOKENS that begin ahead of the most bytes; behind them one of kind E or, for a text too long, L. */
    private static List<Token> tokens(List<Integer> text, int most) {
        List<Token> all = new ArrayList<>();
        int at = 0;
        while (at < text.size() && at < most) {
            int c = text.get(at);
            if (c == 32 || c == 10) {
                at++;
                continue;
            }
            if (!isRun(c)) {
                all.add(new Token(c == ';' ? ';' : '?', at, ""));
                at++;
                continue;
            }
            StringBuilder run = new StringBuilder();
            int start = at;
            while (at < text.size() && isRun(text.get(at))) {
                run.append((char) (int) text.get(at));
                at++;
            }
            String word = run.toString();
            char kind = word.matches("[a-z]{1,7}") ? 'w' : word.matches("[0-9]{1,2}") ? 'n' : '?';
            all.add(new Token(kind, start, word));
        }
        all.add(text.size() > most ? new Token('L', most, "") : new Token('E', text.size(), ""));
        return all;
    }

    private static boolean isRun(int c) {
        return c >= 'a' && c <= 'z' || c >= '0' && c <= '9';
    }

    private static int number(Token token, int least, int most) throws Fault {
        if (token.kind != 'n') {
            throw new Fault(1, token.start);
        }
        if (token.number() < least || token.number() > most) {
            throw new Fault(2, token.start);
        }
        return token.number();
    }

    private static int word(Token token, String... words) throws Fault {
        int which = token.kind == 'w' ? List.of(words).indexOf(token.text) : -1;
        if (which < 0) {
            throw new Fault(1, token.start);
        }
        return which;
    }

    private static void semicolon(Token token) throws Fault {
        if (token.kind != ';') {
            throw new Fault(1, token.start);
        }
    }

    int parish() {
        List<Integer> text = takeTape();
        try {
            List<Token> t = tokens(text, 900);
            int[] rows = new int[1];
            now = readParish(t, rows);
            undo.clear();
            fault = 0;
            return rows[0];
        } catch (Fault f) {
            fault = f.kind;
            return -1 - f.place;
        }
    }

    private static Parish readParish(List<Token> t, int[] rows) throws Fault {
        List<String> names = new ArrayList<>();
        List<String> lineNames = new ArrayList<>();
        List<List<Place>> lines = new ArrayList<>();
        List<Hay> hays = new ArrayList<>();
        Set<String> once = new HashSet<>();
        Place church = new Place(0, 0);
        int law = 0;
        int edge = 0;
        List<Integer> heirs = List.of(0, 1, 2, 3);
        int i = 0;
        while (t.get(i).kind != 'E') {
            Token head = t.get(i);
            int row = word(head, "line", "hay", "church", "law", "edge", "heirs");
            if (row == 0 && lines.size() == 3 || row == 1 && hays.size() == 10) {
                throw new Fault(4, head.start);
            }
            if (row >= 2 && !once.add(head.text)) {
                throw new Fault(3, head.start);
            }
            i++;
            if (row < 2) {
                Token name = t.get(i++);
                if (name.kind != 'w' || WORDS.contains(name.text)) {
                    throw new Fault(1, name.start);
                }
                if (names.contains(name.text)) {
                    throw new Fault(3, name.start);
                }
                names.add(name.text);
                if (row == 0) {
                    lineNames.add(name.text);
                    List<Place> corners = new ArrayList<>();
                    i = readCorners(t, i, corners);
                    lines.add(List.copyOf(corners));
                } else {
                    int x = number(t.get(i++), 0, 19);
                    int y = number(t.get(i++), 0, 19);
                    hays.add(new Hay(name.text, x, y, number(t.get(i++), 0, 99)));
                }
            } else if (row == 2) {
                int x = number(t.get(i++), 0, 19);
                church = new Place(x, number(t.get(i++), 0, 19));
            } else if (row == 3) {
                law = word(t.get(i++), "odd", "round", "left");
            } else if (row == 4) {
                edge = word(t.get(i++), "parish", "his");
            } else {
                List<Integer> four = new ArrayList<>();
                for (int k = 0; k < 4; k++) {
                    four.add(number(t.get(i++), 0, 9));
                }
                heirs = four;
            }
            semicolon(t.get(i++));
            rows[0]++;
        }
        return new Parish(lineNames, lines, hays, church, law, edge, heirs, 0);
    }

    private static int readCorners(List<Token> t, int from, List<Place> corners) throws Fault {
        int i = from;
        while (corners.isEmpty() || t.get(i).kind != ';') {
            int x = number(t.get(i), 0, 20);
            if (corners.size() == 12) {
                throw new Fault(4, t.get(i).start);
            }
            int y = number(t.get(i + 1), 0, 20);
            Place corner = new Place(x, y);
            if (!corners.isEmpty() && corners.get(corners.size() - 1).equals(corner)) {
                throw new Fault(3, t.get(i + 1).start);
            }
            corners.add(corner);
            i += 2;
        }
        if (corners.size() < 3) {
            throw new Fault(4, t.get(i).start);
        }
        if (corners.get(corners.size() - 1).equals(corners.get(0))) {
            throw new Fault(3, t.get(i).start);
        }
        return i;
    }

    int fault() {
        return fault;
    }

    int claims(int line) {
        List<Integer> text = takeTape();
        if (!isLine(line)) {
            return -2000;
        }
        try {
            List<Boolean> so = readClaims(tokens(text, 300), line);
            fault = 0;
            wrong = so.indexOf(false);
            return (int) so.stream().filter(b -> !b).count();
        } catch (Fault f) {
            fault = f.kind;
            return -1 - f.place;
        }
    }

    private List<Boolean> readClaims(List<Token> t, int line) throws Fault {
        List<Boolean> so = new ArrayList<>();
        int i = 0;
        while (t.get(i).kind != 'E') {
            Token head = t.get(i++);
            boolean point = head.kind == 'w' && head.text.equals("point");
            if (head.kind != 'w' || !point && WORDS.contains(head.text)) {
                throw new Fault(1, head.start);
            }
            Hay hay = now.hays.stream().filter(h -> h.name.equals(head.text)).findAny().orElse(null);
            if (!point && hay == null) {
                throw new Fault(3, head.start);
            }
            if (so.size() == 30) {
                throw new Fault(4, head.start);
            }
            if (point) {
                int x = number(t.get(i++), 0, 20);
                int y = number(t.get(i++), 0, 20);
                int claim = word(t.get(i++), "parish", "his", "on");
                int is = whose(line, x, y);
                so.add(claim == 2 ? is > 1 : is % 2 == claim);
            } else {
                int claim = word(t.get(i++), "parish", "his");
                so.add(square(line, hay.x, hay.y) == claim);
            }
            semicolon(t.get(i++));
        }
        return so;
    }

    int wrong() {
        return wrong;
    }

    int walk(int line, int hay) {
        List<Integer> text = takeTape();
        if (!isLine(line) || hay < 0 || hay >= now.hays.size()) {
            return -2000;
        }
        try {
            List<Token> t = tokens(text, 300);
            int x = now.hays.get(hay).x;
            int y = now.hays.get(hay).y;
            int steps = 0;
            int crossed = 0;
            int i = 0;
            while (t.get(i).kind != 'E') {
                int start = t.get(i).start;
                int way = word(t.get(i++), "n", "e", "s", "w");
                int n = number(t.get(i++), 1, 20);
                for (int k = 0; k < n; k++) {
                    int more = crosses(line, x, y, way);
                    if (more == NONE) {
                        throw new Fault(5, start);
                    }
                    crossed += more;
                    x += dx(way);
                    y += dy(way);
                    steps++;
                }
                semicolon(t.get(i++));
            }
            fault = 0;
            walked = new int[] {x, y, steps};
            return crossed;
        } catch (Fault f) {
            fault = f.kind;
            return -1 - f.place;
        }
    }

    private static int dx(int way) {
        return way == 1 ? 1 : way == 3 ? -1 : 0;
    }

    private static int dy(int way) {
        return way == 0 ? -1 : way == 2 ? 1 : 0;
    }

    int walked(int what) {
        return what >= 0 && what <= 2 ? walked[what] : NONE;
    }

    int paces() {
        List<Integer> text = takeTape();
        try {
            List<Token> t = tokens(text, 300);
            List<int[]> rows = new ArrayList<>();
            int i = 0;
            while (t.get(i).kind != 'E') {
                int start = t.get(i).start;
                int way = word(t.get(i++), "n", "e", "s", "w");
                if (rows.size() == 30) {
                    throw new Fault(4, start);
                }
                rows.add(new int[] {way, number(t.get(i++), 1, 99)});
                semicolon(t.get(i++));
            }
            if (rows.size() < 2) {
                throw new Fault(4, t.get(i).start);
            }
            fault = 0;
            paced = mend(rows);
            return rows.size();
        } catch (Fault f) {
            fault = f.kind;
            return -1 - f.place;
        }
    }

    /** All ends that changes of some ROWS can bring about, each with its fewest ROWS and least sum. */
    private static int[] mend(List<int[]> rows) {
        int east = 0;
        int south = 0;
        int[] cheapest = {0, 0};
        boolean can = true;
        for (int[] row : rows) {
            east += dx(row[0]) * row[1];
            south += dy(row[0]) * row[1];
        }
        for (int axis = 0; axis < 2; axis++) {
            Map<Integer, int[]> ends = new HashMap<>();
            ends.put(axis == 0 ? east : south, new int[] {0, 0});
            for (int[] row : rows) {
                int sign = axis == 0 ? dx(row[0]) : dy(row[0]);
                if (sign != 0) {
                    ends = changeRow(ends, sign, row[1]);
                }
            }
            int[] best = ends.get(0);
            can = can && best != null;
            if (best != null) {
                cheapest[0] += best[0];
                cheapest[1] += best[1];
            }
        }
        return new int[] {east, south, can ? cheapest[0] : NONE, can ? cheapest[1] : NONE};
    }

    private static Map<Integer, int[]> changeRow(Map<Integer, int[]> ends, int sign, int old) {
        Map<Integer, int[]> then = new HashMap<>();
        for (Map.Entry<Integer, int[]> end : ends.entrySet()) {
            for (int n = 1; n <= 99; n++) {
                int[] cost = end.getValue();
                int[] more = n == old ? cost : new int[] {cost[0] + 1, cost[1] + Math.abs(n - old)};
                then.merge(end.getKey() + sign * (n - old), more,
                    (a, b) -> a[0] < b[0] || a[0] == b[0] && a[1] <= b[1] ? a : b);
            }
        }
        return then;
    }

    int paced(int what) {
        return what >= 0 && what <= 3 ? paced[what] : -1001;
    }

    // ---- corners, points, squares

    private boolean isLine(int line) {
        return line >= 0 && line < now.lines.size();
    }

    private static boolean isPoint(int x, int y) {
        return x >= 0 && x <= 20 && y >= 0 && y <= 20;
    }

    private static boolean isSquare(int x, int y) {
        return x >= 0 && x <= 19 && y >= 0 && y <= 19;
    }

    private static <T> T cyclic(List<T> list, int i) {
        return list.get(Math.floorMod(i, list.size()));
    }

    int corner(int line, int i, int what) {
        if (!isLine(line) || i < 0 || i >= now.lines.get(line).size() || what < 0 || what > 2) {
            throw new NoSuchElementException();
        }
        List<Place> corners = now.lines.get(line);
        Place here = corners.get(i);
        Place a = cyclic(corners, i - 1);
        Place b = cyclic(corners, i + 1);
        if (what < 2) {
            return what == 0 ? here.x : here.y;
        }
        return Integer.signum((here.x - a.x) * (b.y - here.y) - (here.y - a.y) * (b.x - here.x));
    }

    int hay(int h, int what) {
        if (h < 0 || h >= now.hays.size() || what < 0 || what > 2) {
            throw new NoSuchElementException();
        }
        Hay hay = now.hays.get(h);
        return new int[] {hay.x, hay.y, hay.loads}[what];
    }

    int line(int line, int what) {
        if (!isLine(line) || what < 0 || what > 3) {
            return NONE;
        }
        List<Place> c = now.lines.get(line);
        if (what == 0) {
            return c.size();
        }
        int area = 0;
        int cross = 0;
        int touch = 0;
        for (int i = 0; i < c.size(); i++) {
            Place p = c.get(i);
            Place q = cyclic(c, i + 1);
            area += p.x * q.y - q.x * p.y;
            for (int j = i + 1; j < c.size(); j++) {
                boolean next = j == i + 1 || i == 0 && j == c.size() - 1;
                int meets = meeting(p, q, c.get(j), cyclic(c, j + 1));
                cross += meets == 2 ? 1 : 0;
                touch += meets == 1 && !next ? 1 : 0;
            }
        }
        return what == 1 ? area : what == 2 ? cross : touch;
    }

    /** 0 two EDGES do not meet, 1 they touch or lie on one another, 2 they cross within both; by where they meet. */
    private static int meeting(Place a, Place b, Place c, Place d) {
        int ux = b.x - a.x;
        int uy = b.y - a.y;
        int vx = d.x - c.x;
        int vy = d.y - c.y;
        int det = ux * vy - uy * vx;
        if (det == 0) {
            boolean meet = isOn(a, b, c.x, c.y) || isOn(a, b, d.x, d.y) || isOn(c, d, a.x, a.y)
                || isOn(c, d, b.x, b.y);
            return meet ? 1 : 0;
        }
        int sign = det > 0 ? 1 : -1;
        int s = sign * ((c.x - a.x) * vy - (c.y - a.y) * vx);
        int t = sign * ((c.x - a.x) * uy - (c.y - a.y) * ux);
        int full = sign * det;
        if (s < 0 || s > full || t < 0 || t > full) {
            return 0;
        }
        return s > 0 && s < full && t > 0 && t < full ? 2 : 1;
    }

    private static boolean isOn(Place a, Place b, int x, int y) {
        return (b.x - a.x) * (y - a.y) == (b.y - a.y) * (x - a.x) && Math.min(a.x, b.x) <= x
            && x <= Math.max(a.x, b.x) && Math.min(a.y, b.y) <= y && y <= Math.max(a.y, b.y);
    }

    /** {ON (1), EDGES crossed, ROUND} of a point; all coordinates are twice what they are told to be. */
    private static int[] look(List<Place> corners, int x, int y) {
        int on = 0;
        int crossed = 0;
        int round = 0;
        for (int i = 0; i < corners.size(); i++) {
            Place a = new Place(2 * corners.get(i).x, 2 * corners.get(i).y);
            Place b = new Place(2 * cyclic(corners, i + 1).x, 2 * cyclic(corners, i + 1).y);
            on = isOn(a, b, x, y) ? 1 : on;
            if (Math.min(a.y, b.y) <= y && y < Math.max(a.y, b.y)) {
                // a.x + (y - a.y) * (b.x - a.x) / (b.y - a.y), against x
                long side = (long) (y - a.y) * (b.x - a.x) - (long) (x - a.x) * (b.y - a.y);
                if (b.y > a.y ? side > 0 : side < 0) {
                    crossed++;
                    round += b.y > a.y ? 1 : -1;
                }
            }
        }
        return new int[] {on, crossed, round};
    }

    private static boolean his(Parish parish, List<Place> corners, int x, int y) {
        int[] look = look(corners, x, y);
        if (look[0] == 1) {
            return parish.edge == 1;
        }
        return parish.law == 0 ? look[1] % 2 == 1 : parish.law == 1 ? look[2] != 0 : look[2] > 0;
    }

    private boolean hisPoint(List<Place> corners, int x, int y) {
        return his(now, corners, 2 * x, 2 * y);
    }

    private boolean hisSquare(int line, int x, int y) {
        return isLine(line) && his(now, now.lines.get(line), 2 * x + 1, 2 * y + 1);
    }

    int whose(int line, int x, int y) {
        if (!isLine(line) || !isPoint(x, y)) {
            return NONE;
        }
        List<Place> corners = now.lines.get(line);
        return (hisPoint(corners, x, y) ? 1 : 0) + 2 * look(corners, 2 * x, 2 * y)[0];
    }

    int round(int line, int x, int y) {
        if (!isLine(line) || !isPoint(x, y) || look(now.lines.get(line), 2 * x, 2 * y)[0] == 1) {
            throw new NoSuchElementException();
        }
        return look(now.lines.get(line), 2 * x, 2 * y)[2];
    }

    int square(int line, int x, int y) {
        return isLine(line) && isSquare(x, y) ? hisSquare(line, x, y) ? 1 : 0 : NONE;
    }

    int acres(int line) {
        if (!isLine(line)) {
            return NONE;
        }
        int sum = 0;
        for (int y = 0; y < 20; y++) {
            for (int x = 0; x < 20; x++) {
                sum += square(line, x, y);
            }
        }
        return sum;
    }

    int border(int line) {
        if (!isLine(line)) {
            return NONE;
        }
        int sum = 0;
        for (int y = 0; y < 20; y++) {
            for (int x = 0; x < 20; x++) {
                for (int way = 0; way < 4 && hisSquare(line, x, y); way++) {
                    sum += square(line, x + dx(way), y + dy(way)) == 1 ? 0 : 1;
                }
            }
        }
        return sum;
    }

    int within(int a, int b) {
        if (!isLine(a) || !isLine(b)) {
            return NONE;
        }
        return (int) now.lines.get(a).stream().filter(c -> hisPoint(now.lines.get(b), c.x, c.y)).count();
    }

    int loads(int line, int whose) {
        if (!isLine(line) || whose < 0 || whose > 1) {
            return NONE;
        }
        return now.hays.stream().filter(h -> square(line, h.x, h.y) == whose).mapToInt(h -> h.loads).sum();
    }

    int heir(int x, int y) {
        if (!isSquare(x, y)) {
            return NONE;
        }
        return now.heirs.get((hisSquare(0, x, y) ? 1 : 0) + (hisSquare(1, x, y) ? 2 : 0));
    }

    int estate(int heir) {
        if (heir < 0 || heir > 9) {
            return NONE;
        }
        int sum = 0;
        for (int s = 0; s < 400; s++) {
            sum += heir(s % 20, s / 20) == heir ? 1 : 0;
        }
        return sum;
    }

    // ---- pieces, walks

    private int[] pieceMap(int line) {
        int[] map = new int[400];
        Arrays.fill(map, -1);
        int pieces = 0;
        for (int s = 0; s < 400; s++) {
            if (map[s] < 0) {
                ArrayDeque<Integer> open = new ArrayDeque<>(List.of(s));
                map[s] = pieces;
                while (!open.isEmpty()) {
                    int at = open.pop();
                    for (int way = 0; way < 4; way++) {
                        int x = at % 20 + dx(way);
                        int y = at / 20 + dy(way);
                        if (isSquare(x, y) && map[y * 20 + x] < 0
                            && hisSquare(line, x, y) == hisSquare(line, s % 20, s / 20)) {
                            map[y * 20 + x] = pieces;
                            open.push(y * 20 + x);
                        }
                    }
                }
                pieces++;
            }
        }
        return map;
    }

    private static List<Set<Integer>> neighbours(int[] map) {
        List<Set<Integer>> all = new ArrayList<>();
        for (int p = 0; p <= Arrays.stream(map).max().getAsInt(); p++) {
            all.add(new HashSet<>());
        }
        for (int s = 0; s < 400; s++) {
            for (int way = 0; way < 4; way++) {
                int x = s % 20 + dx(way);
                int y = s / 20 + dy(way);
                if (isSquare(x, y) && map[y * 20 + x] != map[s]) {
                    all.get(map[s]).add(map[y * 20 + x]);
                }
            }
        }
        return all;
    }

    int pieces(int line) {
        return isLine(line) ? Arrays.stream(pieceMap(line)).max().getAsInt() + 1 : NONE;
    }

    int piece(int line, int p, int what) {
        if (!isLine(line) || p < 0 || p >= pieces(line) || what < 0 || what > 4) {
            return NONE;
        }
        int[] map = pieceMap(line);
        int first = 0;
        while (map[first] != p) {
            first++;
        }
        int size = (int) Arrays.stream(map).filter(q -> q == p).count();
        return new int[] {size, square(line, first % 20, first / 20), first % 20, first / 20,
            neighbours(map).get(p).size()}[what];
    }

    int pieceAt(int line, int x, int y) {
        return isLine(line) && isSquare(x, y) ? pieceMap(line)[y * 20 + x] : NONE;
    }

    int crosses(int line, int x, int y, int direction) {
        if (!isLine(line) || !isSquare(x, y) || direction < 0 || direction > 3
            || !isSquare(x + dx(direction), y + dy(direction))) {
            return NONE;
        }
        boolean across = dx(direction) != 0;
        int along = 2 * (across ? Math.min(x, x + dx(direction)) : Math.min(y, y + dy(direction))) + 1;
        int level = 2 * (across ? y : x) + 1;
        int sum = 0;
        List<Place> corners = now.lines.get(line);
        for (int i = 0; i < corners.size(); i++) {
            Place a = corners.get(i);
            Place b = cyclic(corners, i + 1);
            // u along the step, v across it, all doubled
            int u1 = 2 * (across ? a.x : a.y);
            int v1 = 2 * (across ? a.y : a.x);
            int u2 = 2 * (across ? b.x : b.y);
            int v2 = 2 * (across ? b.y : b.x);
            if ((v1 - level) * (v2 - level) < 0) {
                double at = u1 + (double) (level - v1) * (u2 - u1) / (v2 - v1);
                double snapped = Math.rint(at);
                at = Math.abs(at - snapped) < 1e-9 ? snapped : at;
                sum += at > along && at <= along + 2 ? 1 : 0;
            }
        }
        return sum;
    }

    int least(int line, int hay, int what) {
        if (!isLine(line) || hay < 0 || hay >= now.hays.size() || what < 0 || what > 1) {
            return NONE;
        }
        long[] cost = new long[400];
        Arrays.fill(cost, Long.MAX_VALUE / 2);
        cost[now.hays.get(hay).y * 20 + now.hays.get(hay).x] = 0;
        boolean changed = true;
        while (changed) {
            changed = false;
            for (int s = 0; s < 400; s++) {
                for (int way = 0; way < 4; way++) {
                    int more = crosses(line, s % 20, s / 20, way);
                    int next = s + dx(way) + 20 * dy(way);
                    if (more != NONE && cost[s] + more * 1000000L + 1 < cost[next]) {
                        cost[next] = cost[s] + more * 1000000L + 1;
                        changed = true;
                    }
                }
            }
        }
        long price = cost[now.church.y * 20 + now.church.x];
        return (int) (what == 0 ? price / 1000000L : price % 1000000L);
    }

    /** NONE - 1: there are too many PIECES and ends for this model. */
    int stiles(int line) {
        if (!isLine(line) || now.hays.size() > 6) {
            return NONE;
        }
        int[] map = pieceMap(line);
        List<Set<Integer>> beside = neighbours(map);
        int goal = map[now.church.y * 20 + now.church.x];
        Set<Integer> ends = new HashSet<>(Set.of(goal));
        for (Hay hay : now.hays) {
            ends.add(map[hay.y * 20 + hay.x]);
        }
        if (beside.size() <= 14) {
            return smallestSet(beside, goal, ends);
        }
        return ends.size() <= 4 ? bestForks(beside, new ArrayList<>(ends)) : NONE - 1;
    }

    /** Of the sets of PIECES that hang together and have all ends the smallest: one opening less than PIECES. */
    private static int smallestSet(List<Set<Integer>> beside, int goal, Set<Integer> ends) {
        int must = 0;
        for (int end : ends) {
            must |= 1 << end;
        }
        int best = Integer.MAX_VALUE;
        for (int set = 0; set < 1 << beside.size(); set++) {
            if ((set & must) == must && Integer.bitCount(set) - 1 < best && hangsTogether(set, goal, beside)) {
                best = Integer.bitCount(set) - 1;
            }
        }
        return best;
    }

    /** Up to four ends are joined best by ways that meet at no more than two PIECES beside themselves. */
    private static int bestForks(List<Set<Integer>> beside, List<Integer> ends) {
        int n = beside.size();
        int[][] far = new int[n][n];
        for (int p = 0; p < n; p++) {
            Arrays.fill(far[p], 10000);
            far[p][p] = 0;
            for (int q : beside.get(p)) {
                far[p][q] = 1;
            }
        }
        for (int k = 0; k < n; k++) {
            for (int p = 0; p < n; p++) {
                for (int q = 0; q < n; q++) {
                    far[p][q] = Math.min(far[p][q], far[p][k] + far[k][q]);
                }
            }
        }
        int best = Integer.MAX_VALUE;
        for (int p = 0; p < n; p++) {
            for (int q = p; q < n; q++) {
                List<Integer> all = new ArrayList<>(ends);
                all.add(p);
                all.add(q);
                best = Math.min(best, Math.min(tree(far, all), tree(far, all.subList(0, all.size() - 1))));
            }
        }
        return Math.min(best, tree(far, ends));
    }

    /** The cheapest tree over these PIECES alone. */
    private static int tree(int[][] far, List<Integer> all) {
        List<Integer> in = new ArrayList<>(List.of(all.get(0)));
        List<Integer> out = new ArrayList<>(all.subList(1, all.size()));
        int sum = 0;
        while (!out.isEmpty()) {
            int best = Integer.MAX_VALUE;
            Integer next = null;
            for (int p : in) {
                for (Integer q : out) {
                    if (far[p][q] < best) {
                        best = far[p][q];
                        next = q;
                    }
                }
            }
            sum += best;
            in.add(next);
            out.remove(next);
        }
        return sum;
    }

    private static boolean hangsTogether(int set, int from, List<Set<Integer>> beside) {
        int reached = 1 << from;
        boolean more = true;
        while (more) {
            more = false;
            for (int p = 0; p < beside.size(); p++) {
                for (int q : beside.get(p)) {
                    if ((reached >> p & 1) == 1 && (set >> q & 1) == 1 && (reached >> q & 1) == 0) {
                        reached |= 1 << q;
                        more = true;
                    }
                }
            }
        }
        return reached == set;
    }

    // ---- acts

    private static boolean mayStand(List<Place> corners, int i, Place there) {
        return !cyclic(corners, i - 1).equals(there) && !cyclic(corners, i + 1).equals(there);
    }

    private List<Place> after(int line, int i, int x, int y) {
        if (!isLine(line) || i < 0 || i >= now.lines.get(line).size() || !isPoint(x, y)) {
            return null;
        }
        List<Place> corners = new ArrayList<>(now.lines.get(line));
        Place there = new Place(x, y);
        if (corners.get(i).equals(there) || !mayStand(corners, i, there)) {
            return null;
        }
        corners.set(i, there);
        return corners;
    }

    private void act(Parish then) {
        undo.push(now);
        if (undo.size() > 8) {
            undo.removeLast();
        }
        now = then;
    }

    boolean move(int line, int i, int x, int y) {
        List<Place> corners = after(line, i, x, y);
        if (corners == null) {
            return false;
        }
        act(now.with(line, corners, 1));
        return true;
    }

    boolean shift(int line, int dx, int dy) {
        if (!isLine(line) || dx == 0 && dy == 0) {
            return false;
        }
        List<Place> corners = new ArrayList<>();
        for (Place c : now.lines.get(line)) {
            long x = (long) c.x + dx;
            long y = (long) c.y + dy;
            if (x < 0 || x > 20 || y < 0 || y > 20) {
                return false;
            }
            corners.add(new Place((int) x, (int) y));
        }
        act(now.with(line, corners, corners.size()));
        return true;
    }

    int moved(int line, int i, int x, int y, int what) {
        List<Place> corners = after(line, i, x, y);
        if (corners == null || what < 0 || what > 1) {
            return NONE;
        }
        int sum = 0;
        for (int s = 0; s < 400; s++) {
            boolean was = hisSquare(line, s % 20, s / 20);
            boolean is = his(now, corners, 2 * (s % 20) + 1, 2 * (s / 20) + 1);
            sum += was != is && is == (what == 0) ? 1 : 0;
        }
        return sum;
    }

    int nights(int n, int seed) {
        if (n < 1 || n > 200 || now.lines.isEmpty()) {
            return NONE;
        }
        Parish then = now;
        int x = seed;
        for (int night = 0; night < n; night++) {
            x = x * 1103515245 + 12345;
            int line = (x >>> 8) % then.lines.size();
            List<Place> corners = new ArrayList<>(then.lines.get(line));
            x = x * 1103515245 + 12345;
            int i = (x >>> 8) % corners.size();
            x = x * 1103515245 + 12345;
            int way = (x >>> 8) % 4;
            Place there = new Place(corners.get(i).x + dx(way), corners.get(i).y + dy(way));
            if (isPoint(there.x, there.y) && mayStand(corners, i, there)) {
                corners.set(i, there);
                then = then.with(line, corners, 1);
            }
        }
        int done = then.moved - now.moved;
        act(then);
        return done;
    }

    int undo() {
        if (undo.isEmpty()) {
            return NONE;
        }
        now = undo.pop();
        return undo.size();
    }

    // ---- told points

    private static List<int[]> points(List<Integer> bytes) {
        if (bytes.isEmpty() || bytes.size() > 24 || bytes.size() % 3 != 0) {
            return null;
        }
        List<int[]> points = new ArrayList<>();
        for (int i = 0; i < bytes.size(); i += 3) {
            int[] p = {bytes.get(i), bytes.get(i + 1), bytes.get(i + 2)};
            if (!isPoint(p[0], p[1]) || p[2] > 1) {
                return null;
            }
            points.add(p);
        }
        return points;
    }

    private boolean fits(List<Place> corners, List<int[]> points) {
        for (int[] p : points) {
            if (hisPoint(corners, p[0], p[1]) != (p[2] == 1)) {
                return false;
            }
        }
        return true;
    }

    int byNight(int line, int r) {
        List<int[]> points = points(takeTape());
        if (points == null || !isLine(line) || r < 1 || r > 3) {
            return -2;
        }
        List<Place> corners = now.lines.get(line);
        for (int many = 0; many <= 2; many++) {
            List<List<int[]>> found = new ArrayList<>();
            search(corners, r, points, many, 0, List.of(), found);
            if (!found.isEmpty()) {
                ways = found.size();
                way = first(found);
                return many;
            }
        }
        return NONE;
    }

    /** All ways with so many corners, each as {which, DX, DY, X, Y} a corner. */
    private void search(List<Place> corners, int r, List<int[]> points, int many, int from, List<int[]> chosen,
        List<List<int[]>> found) {
        if (chosen.size() == many) {
            List<Place> then = new ArrayList<>(corners);
            for (int[] c : chosen) {
                then.set(c[0], new Place(c[3], c[4]));
            }
            for (int[] c : chosen) {
                if (!mayStand(then, c[0], then.get(c[0]))) {
                    return;
                }
            }
            if (fits(then, points)) {
                found.add(chosen);
            }
            return;
        }
        for (int i = from; i < corners.size(); i++) {
            for (int dx = -r; dx <= r; dx++) {
                for (int dy = -r; dy <= r; dy++) {
                    int x = corners.get(i).x + dx;
                    int y = corners.get(i).y + dy;
                    if ((dx != 0 || dy != 0) && isPoint(x, y)) {
                        List<int[]> more = new ArrayList<>(chosen);
                        more.add(new int[] {i, dx, dy, x, y});
                        search(corners, r, points, many, i + 1, more, found);
                    }
                }
            }
        }
    }

    /** By the corners, then by where the one comes to, then by where the other does. */
    private static List<int[]> first(List<List<int[]>> found) {
        List<int[]> best = null;
        int[] bestKey = null;
        for (List<int[]> one : found) {
            int n = one.size();
            int[] key = new int[3 * n];
            for (int k = 0; k < n; k++) {
                key[k] = one.get(k)[0];
                key[n + 2 * k] = one.get(k)[1];
                key[n + 2 * k + 1] = one.get(k)[2];
            }
            if (bestKey == null || Arrays.compare(key, bestKey) < 0) {
                best = one;
                bestKey = key;
            }
        }
        return best;
    }

    int ways() {
        return ways;
    }

    int way(int k, int what) {
        if (way == null || k < 0 || k >= way.size() || what < 0 || what > 2) {
            return NONE;
        }
        return way.get(k)[new int[] {0, 3, 4}[what]];
    }

    int rectangle() {
        List<int[]> points = points(takeTape());
        if (points == null) {
            return -2;
        }
        int[] best = null;
        for (int x1 = 0; x1 <= 20; x1++) {
            for (int y1 = 0; y1 <= 20; y1++) {
                for (int x2 = x1 + 1; x2 <= 20; x2++) {
                    for (int y2 = y1 + 1; y2 <= 20; y2++) {
                        int sum = x2 - x1 + y2 - y1;
                        if ((best == null || sum < best[0]) && fits(List.of(new Place(x1, y1), new Place(x2, y1),
                            new Place(x2, y2), new Place(x1, y2)), points)) {
                            best = new int[] {sum, x1, y1, x2, y2};
                        }
                    }
                }
            }
        }
        if (best == null) {
            return NONE;
        }
        sides = Arrays.copyOfRange(best, 1, 5);
        return best[0];
    }

    int side(int what) {
        return what >= 0 && what <= 3 ? sides[what] : NONE;
    }

    // ---- images, counts

    boolean image(int k) {
        if (k != 0 && k != 1) {
            return false;
        }
        images[k] = now;
        return true;
    }

    boolean restore(int k) {
        if (k != 0 && k != 1 || images[k] == null) {
            return false;
        }
        now = images[k];
        undo.clear();
        return true;
    }

    int count(int what) {
        int[] counts = {now.lines.size(), now.hays.size(), now.church.x, now.church.y, now.law, now.edge, now.moved,
            tape.size()};
        return what >= 0 && what < 8 ? counts[what] : NONE;
    }
}
