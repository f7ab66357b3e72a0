import java.util.ArrayList;
import java.util.List;
import java.util.NoSuchElementException;
import java.util.Random;

/** Many runs of calls drawn by fixed seeds, each answer of OddHay compared with that of the Model. */
public final class RandomRunsTest {
    private static final int RUNS = 400;
    private static final int CALLS = 430;
    private static final String[] NAMES = {"p", "q", "r", "a", "b", "c", "d", "f", "g", "h", "hayrick", "zz", "lines"};

    private final Random random;
    private final OddHay hay = new OddHay();
    private final Model model = new Model();
    private final List<String> calls = new ArrayList<>();
    private static int wrong;

    private RandomRunsTest(long seed) {
        random = new Random(seed);
    }

    public static void main(String[] args) {
        int runs = args.length > 1 ? Integer.parseInt(args[1]) : RUNS;
        for (int seed = 0; seed < runs && wrong < 5; seed++) {
            new RandomRunsTest(seed).run(seed);
        }
        System.out.println(wrong == 0 ? "random runs: all answers are as due" : "random runs: " + wrong + " wrong");
        System.exit(wrong == 0 ? 0 : 1);
    }

    private void run(int seed) {
        try {
            while (calls.size() < CALLS) {
                if (calls.isEmpty() || random.nextInt(60) == 0) {
                    tellParish();
                } else if (seed % 4 == 3) {
                    tellSmallLine();
                } else {
                    call(random.nextInt(44));
                }
            }
        } catch (Mismatch e) {
            wrong++;
            System.out.println("seed " + seed + ": " + e.getMessage());
            calls.subList(Math.max(0, calls.size() - 12), calls.size()).forEach(c -> System.out.println("   " + c));
        }
    }

    private static final class Mismatch extends RuntimeException {
        private static final long serialVersionUID = 1L;

        Mismatch(String text) {
            super(text);
        }
    }

    private interface Call {
        long answer();
    }

    private static final long THROWN = Long.MIN_VALUE;

    private static long ask(Call call) {
        try {
            return call.answer();
        } catch (NoSuchElementException e) {
            return THROWN;
        }
    }

    private void same(String text, Call real, Call due) {
        calls.add(text);
        long got = ask(real);
        long want = ask(due);
        if (got != want) {
            throw new Mismatch(text + " answered " + got + ", due is " + want);
        }
    }

    private static long bit(boolean b) {
        return b ? 1 : 0;
    }

    // ---- texts

    private void put(int[] bytes) {
        int before = model.count(7);
        for (int at = 0; at < bytes.length; at += 20) {
            int[] f = new int[5];
            for (int i = 0; i < 20; i++) {
                f[i / 4] = f[i / 4] << 8 | (at + i < bytes.length ? bytes[at + i] & 255 : 0);
            }
            same("feed", () -> hay.feed(f[0], f[1], f[2], f[3], f[4]), () -> model.feed(f[0], f[1], f[2], f[3], f[4]));
        }
        int n = before + bytes.length;
        same("end " + n, () -> bit(hay.end(n)), () -> bit(model.end(n)));
    }

    private void put(String text) {
        int[] bytes = text.chars().toArray();
        put(bytes);
        calls.add("text '" + text + "'");
    }

    private int oneOf(int... all) {
        return all[random.nextInt(all.length)];
    }

    private String name() {
        return NAMES[random.nextInt(NAMES.length)];
    }

    private String number(int most) {
        return random.nextInt(200) == 0 ? "" + random.nextInt(120) : "" + random.nextInt(most + 1);
    }

    private void tellParish() {
        StringBuilder text = new StringBuilder();
        int wide = oneOf(4, 8, 20);
        List<String> names = new ArrayList<>(List.of(NAMES));
        java.util.Collections.shuffle(names, random);
        int lines = oneOf(0, 1, 1, 1, 2, 2, 2, 3, 3);
        for (int k = 0; k < lines; k++) {
            text.append("line ").append(names.remove(0));
            int corners = random.nextInt(3) == 0 ? 12 : 3 + random.nextInt(6);
            int shape = random.nextInt(4);
            int x = random.nextInt(wide + 1);
            int y = random.nextInt(wide + 1);
            for (int i = 0; i < corners; i++) {
                int oldX = x;
                int oldY = y;
                while (x == oldX && y == oldY) {
                    if (shape == 2) { // to and fro, so that there are many small PIECES
                        x = i % 2 == 0 ? random.nextInt(3) : wide - random.nextInt(3);
                        y = Math.min(wide, i * wide / corners + random.nextInt(3));
                        continue;
                    }
                    x = shape == 1 && i % 2 == 0 ? x : random.nextInt(wide + 1);
                    y = shape == 1 && i % 2 == 1 ? y : random.nextInt(wide + 1);
                }
                text.append(' ').append(x).append(' ').append(y);
            }
            text.append(";\n");
        }
        int hays = oneOf(0, 1, 2, 3, 4, 5, 6, 6, 7, 10);
        for (int k = 0; k < hays; k++) {
            text.append("hay ").append(names.remove(0)).append(' ').append(number(Math.min(19, wide))).append(' ')
                .append(number(Math.min(19, wide))).append(' ').append(number(99)).append(';');
        }
        if (random.nextBoolean()) {
            text.append("church ").append(number(Math.min(19, wide))).append(' ').append(number(19)).append(';');
        }
        if (random.nextInt(4) > 0) {
            text.append("law ").append(random.nextInt(3) == 0 ? "odd" : random.nextBoolean() ? "round" : "left")
                .append(';');
        }
        if (random.nextBoolean()) {
            text.append("edge ").append(random.nextBoolean() ? "his;" : "parish;");
        }
        if (random.nextBoolean()) {
            text.append("heirs");
            for (int k = 0; k < 4; k++) {
                text.append(' ').append(number(9));
            }
            text.append(';');
        }
        put(spoil(text.toString(), 900));
        same("parish", hay::parish, model::parish);
    }

    /** Now and then a text with a fault, or one that comes to its most bytes. */
    private String spoil(String text, int most) {
        String then = text;
        if (random.nextInt(8) == 0 && then.length() < most) {
            int at = random.nextInt(then.length() + 1);
            if (at == 0 || at == then.length() || ";\n ".indexOf(then.charAt(at - 1)) >= 0) {
                int until = most - random.nextInt(6) + 3;
                then = then.substring(0, at) + " ".repeat(Math.max(0, until - then.length())) + then.substring(at);
            }
        }
        if (random.nextInt(3) == 0 && !then.isEmpty()) {
            String[] bits = {";", " ", "7", "21", "20", "19", "line", "hay", "law odd;", "edge his;", "church 1 1;",
                "heirs 1 2 3 4;", "p", "n", "x", "point", "his", "on", "parish", "A", ".", "\t", "100", "abcdefgh", "a1",
                "1a", "0", "line z 1 1 2 2;", "line z 1 1;", "line z;", "n 1;", "e 20;", "s 0;", "hay p 1 1 1;"};
            String bit = bits[random.nextInt(bits.length)];
            int at = random.nextInt(then.length() + 1);
            int cut = Math.min(then.length(), at + oneOf(0, 0, 1, 2, 3, 8));
            then = then.substring(0, at) + bit + then.substring(cut);
        }
        if (random.nextInt(12) == 0) {
            then = then.substring(0, random.nextInt(then.length() + 1));
        }
        return then.length() > 930 ? then.substring(0, 930) : then;
    }

    /** Corners and points so near one another that a corner can come to its neighbours by night. */
    private void tellSmallLine() {
        StringBuilder text = new StringBuilder(random.nextBoolean() ? "edge his;" : "");
        text.append("law ").append(random.nextBoolean() ? "odd" : random.nextBoolean() ? "left" : "round");
        text.append(";line p");
        int at = oneOf(0, 9, 17);
        int corners = 3 + random.nextInt(4);
        for (int i = 0; i < corners; i++) {
            text.append(' ').append(at + random.nextInt(4)).append(' ').append(at + random.nextInt(4));
        }
        put(text.append(';').toString());
        same("parish", hay::parish, model::parish);
        int[] bytes = new int[3 * (1 + random.nextInt(8))];
        for (int i = 0; i < bytes.length; i++) {
            bytes[i] = i % 3 == 2 ? random.nextInt(2) : at + random.nextInt(4);
        }
        int r = oneOf(1, 1, 2, 2, 3);
        put(bytes);
        same("byNight 0 " + r, () -> hay.byNight(0, r), () -> model.byNight(0, r));
        tellWays();
        put(bytes);
        same("rectangle", hay::rectangle, model::rectangle);
        for (int w = 0; w < 4; w++) {
            int what = w;
            same("side " + what, () -> hay.side(what), () -> model.side(what));
        }
    }

    private String walk(int rows, int most) {
        StringBuilder text = new StringBuilder();
        for (int k = 0; k < rows; k++) {
            text.append("nesw".charAt(random.nextInt(4))).append(random.nextBoolean() ? " " : "\n")
                .append(1 + random.nextInt(most)).append(random.nextBoolean() ? ";" : " ; ");
        }
        return text.toString();
    }

    private String claims() {
        StringBuilder text = new StringBuilder();
        int rows = random.nextInt(10) == 0 ? 28 + random.nextInt(5) : random.nextInt(6);
        String[] whose = {"his", "parish", "on"};
        for (int k = 0; k < rows; k++) {
            if (random.nextInt(3) > 0) {
                text.append("point ").append(number(20)).append(' ').append(number(20)).append(' ')
                    .append(whose[random.nextInt(3)]).append(';');
            } else {
                text.append(name()).append(' ').append(whose[random.nextInt(20) == 0 ? 2 : random.nextInt(2)])
                    .append(';');
            }
        }
        return text.toString();
    }

    private int[] points() {
        int many = 1 + random.nextInt(random.nextInt(12) == 0 ? 9 : 5);
        int[] bytes = new int[3 * many + (random.nextInt(20) == 0 ? 1 : 0)];
        for (int i = 0; i < bytes.length; i++) {
            bytes[i] = i % 3 == 2 ? random.nextInt(2) : random.nextInt(random.nextBoolean() ? 21 : 9);
        }
        if (random.nextInt(15) == 0) {
            bytes[random.nextInt(bytes.length)] = oneOf(2, 21, 255, 128, 20);
        }
        return bytes;
    }

    // ---- numbers

    private int line() {
        return random.nextInt(12) == 0 ? odd() : random.nextInt(2);
    }

    private int odd() {
        return oneOf(-1, 2, 3, 4, 20, 21, 1000, Integer.MIN_VALUE, Integer.MAX_VALUE, random.nextInt());
    }

    private int upTo(int most) {
        return random.nextInt(25) == 0 ? odd() : random.nextInt(most + 1);
    }

    // ---- calls

    private void call(int which) {
        if (which < 22) {
            look(which);
        } else {
            act(which);
        }
    }

    private void look(int which) {
        int l = line();
        int x = upTo(20);
        int y = upTo(20);
        int i = upTo(11);
        int what = upTo(3);
        switch (which) {
            case 0 -> same("corner " + l + " " + i + " " + what, () -> hay.corner(l, i, what),
                () -> model.corner(l, i, what));
            case 1 -> same("hay " + i + " " + what, () -> hay.hay(i, what), () -> model.hay(i, what));
            case 2 -> same("line " + l + " " + what, () -> hay.line(l, what), () -> model.line(l, what));
            case 3 -> same("whose " + l + " " + x + " " + y, () -> hay.whose(l, x, y), () -> model.whose(l, x, y));
            case 4 -> same("round " + l + " " + x + " " + y, () -> hay.round(l, x, y), () -> model.round(l, x, y));
            case 5 -> same("square " + l + " " + x + " " + y, () -> hay.square(l, x, y), () -> model.square(l, x, y));
            case 6 -> same("acres " + l, () -> hay.acres(l), () -> model.acres(l));
            case 7 -> same("border " + l, () -> hay.border(l), () -> model.border(l));
            case 8 -> {
                int m = line();
                same("within " + l + " " + m, () -> hay.within(l, m), () -> model.within(l, m));
            }
            case 9 -> same("wrong", hay::wrong, model::wrong);
            case 10 -> same("loads " + l + " " + what, () -> hay.loads(l, what), () -> model.loads(l, what));
            case 11 -> same("heir " + x + " " + y, () -> hay.heir(x, y), () -> model.heir(x, y));
            case 12 -> same("estate " + i, () -> hay.estate(i), () -> model.estate(i));
            case 13 -> same("pieces " + l, () -> hay.pieces(l), () -> model.pieces(l));
            case 14 -> {
                int w = upTo(5);
                same("piece " + l + " " + i + " " + w, () -> hay.piece(l, i, w), () -> model.piece(l, i, w));
            }
            case 15 -> same("pieceAt " + l + " " + x + " " + y, () -> hay.pieceAt(l, x, y),
                () -> model.pieceAt(l, x, y));
            case 16 -> {
                int d = upTo(4);
                same("crosses " + l + " " + x + " " + y + " " + d, () -> hay.crosses(l, x, y, d),
                    () -> model.crosses(l, x, y, d));
            }
            case 17 -> {
                int w = upTo(2);
                same("least " + l + " " + what + " " + w, () -> hay.least(l, what, w), () -> model.least(l, what, w));
            }
            case 18 -> {
                int due = model.stiles(l);
                same("stiles " + l, () -> due == Model.NONE - 1 ? due : hay.stiles(l), () -> due);
            }
            case 19 -> same("walked " + what, () -> hay.walked(what), () -> model.walked(what));
            case 20 -> same("fault", hay::fault, model::fault);
            default -> {
                for (int w = -1; w < 9; w++) {
                    int c = w;
                    same("count " + c, () -> hay.count(c), () -> model.count(c));
                }
            }
        }
    }

    private void act(int which) {
        int l = line();
        int x = upTo(20);
        int y = upTo(20);
        int i = upTo(11);
        int what = upTo(3);
        switch (which) {
            case 22, 23 -> same("move " + l + " " + i + " " + x + " " + y, () -> bit(hay.move(l, i, x, y)),
                () -> bit(model.move(l, i, x, y)));
            case 24 -> {
                int dx = random.nextInt(12) == 0 ? odd() : random.nextInt(7) - 3;
                int dy = random.nextInt(12) == 0 ? odd() : random.nextInt(7) - 3;
                same("shift " + l + " " + dx + " " + dy, () -> bit(hay.shift(l, dx, dy)),
                    () -> bit(model.shift(l, dx, dy)));
            }
            case 25, 26 -> {
                int w = upTo(2);
                same("moved " + l + " " + i + " " + x + " " + y + " " + w, () -> hay.moved(l, i, x, y, w),
                    () -> model.moved(l, i, x, y, w));
            }
            case 27 -> {
                int n = oneOf(1, 2, 3, 50, 200, 201, 0, -1, random.nextInt());
                int seed = random.nextInt();
                same("nights " + n + " " + seed, () -> hay.nights(n, seed), () -> model.nights(n, seed));
            }
            case 28, 29 -> same("undo", hay::undo, model::undo);
            case 30, 31 -> {
                int r = random.nextInt(10) == 0 ? odd() : oneOf(1, 1, 1, 1, 1, 2, 2, 3);
                put(points());
                same("byNight " + l + " " + r, () -> hay.byNight(l, r), () -> model.byNight(l, r));
                tellWays();
            }
            case 32 -> tellWays();
            case 33 -> {
                put(points());
                same("rectangle", hay::rectangle, model::rectangle);
            }
            case 34 -> same("side " + what, () -> hay.side(what), () -> model.side(what));
            case 35 -> {
                put(spoil(walk(oneOf(0, 1, 2, 2, 3, 4, 5, 6, 29, 30, 31), oneOf(3, 20, 99)), 300));
                same("paces", hay::paces, model::paces);
            }
            case 36 -> {
                int w = upTo(4);
                same("paced " + w, () -> hay.paced(w), () -> model.paced(w));
            }
            case 37 -> same("image " + what, () -> bit(hay.image(what)), () -> bit(model.image(what)));
            case 38 -> {
                if (random.nextInt(3) == 0) {
                    same("restore " + what, () -> bit(hay.restore(what)), () -> bit(model.restore(what)));
                }
            }
            case 39, 40 -> {
                put(spoil(claims(), 300));
                same("claims " + l, () -> hay.claims(l), () -> model.claims(l));
                same("fault", hay::fault, model::fault);
                same("wrong", hay::wrong, model::wrong);
            }
            case 41, 42 -> {
                put(spoil(walk(random.nextInt(random.nextInt(10) == 0 ? 70 : 8), oneOf(1, 3, 21)), 300));
                same("walk " + l + " " + what, () -> hay.walk(l, what), () -> model.walk(l, what));
                same("fault", hay::fault, model::fault);
            }
            default -> {
                if (random.nextInt(4) == 0) {
                    int n = upTo(30);
                    same("feed", () -> hay.feed(n, n, n, n, x), () -> model.feed(n, n, n, n, x));
                    same("end " + n, () -> bit(hay.end(n)), () -> bit(model.end(n)));
                }
            }
        }
    }

    private void tellWays() {
        same("ways", hay::ways, model::ways);
        for (int k = -1; k < 3; k++) {
            for (int w = -1; w < 4; w++) {
                int a = k;
                int b = w;
                same("way " + a + " " + b, () -> hay.way(a, b), () -> model.way(a, b));
            }
        }
    }
}
