/** Each sentence that bounds whose the ground is, its PIECES and the ways over it; promises 6 to 14, 17 to 27. */
public final class GroundBoundariesTest extends Trial {
    private static final String ALL = "line p 0 0 20 0 20 20 0 20;";
    private static final String ALL_BACK = "line p 0 20 20 20 20 0 0 0;";
    private static final String HALF = "line p 0 0 20 20 0 20;";
    private static final String STRIP = "line p 5 0 6 0 6 20 5 20;";
    /** HIS from X 2 to 4, 6 to 8 and 10 to 12: seven PIECES in a row. */
    private static final String STRIPS = "line p 2 0 4 0 4 20 6 20 6 0 8 0 8 20 10 20 10 0 12 0 12 20 2 20;";
    /** SQUARES 0 0 and 1 1 are HIS, and touch at a corner. */
    private static final String CHECKS = "line p 0 0 1 0 1 2 2 2 2 1 0 1;";

    public static void main(String[] args) {
        GroundBoundariesTest test = new GroundBoundariesTest();
        test.refusals();
        test.lastOfEachKind();
        test.throwing();
        test.turns();
        test.areas();
        test.crossings();
        test.touches();
        test.on();
        test.round();
        test.laws();
        test.squares();
        test.borders();
        test.withinEachOther();
        test.loads();
        test.heirs();
        test.pieces();
        test.beside();
        test.manyPieces();
        test.stepsOverMiddles();
        test.stepsAtTheRim();
        test.walks();
        test.least();
        test.stiles();
        close("ground boundaries");
    }

    private void refusals() {
        about("NONE: no such ones (without a LINE)");
        due("line", -1, hay.line(0, 0));
        due("whose", -1, hay.whose(0, 0, 0));
        due("square", -1, hay.square(0, 0, 0));
        due("acres", -1, hay.acres(0));
        due("border", -1, hay.border(0));
        due("within", -1, hay.within(0, 0));
        due("loads", -1, hay.loads(0, 0));
        due("pieces", -1, hay.pieces(0));
        due("piece", -1, hay.piece(0, 0, 0));
        due("pieceAt", -1, hay.pieceAt(0, 0, 0));
        due("crosses", -1, hay.crosses(0, 0, 0, 1));
        due("least", -1, hay.least(0, 0, 0));
        due("stiles", -1, hay.stiles(0));
        due("corner", THROWS, orThrows(() -> hay.corner(0, 0, 0)));
        due("hay", THROWS, orThrows(() -> hay.hay(0, 0)));
        due("round", THROWS, orThrows(() -> hay.round(0, 0, 0)));
        due("heir needs none", 0, hay.heir(0, 0));
        due("estate needs none", 400, hay.estate(0));

        about("no such ones: a LINE");
        parish(FIELD + "line q 0 0 20 0 20 20;line r 9 9 12 9 12 12 9 12;hay h 3 3 1;");
        bounds("corner of LINE", 0, 2, THROWS, n -> hay.corner(n, 0, 0));
        bounds("line", 0, 2, -1, n -> hay.line(n, 0));
        bounds("whose", 0, 2, -1, n -> hay.whose(n, 3, 4));
        bounds("round", 0, 2, THROWS, n -> hay.round(n, 3, 4));
        bounds("square", 0, 2, -1, n -> hay.square(n, 3, 4));
        bounds("acres", 0, 2, -1, n -> hay.acres(n));
        bounds("border", 0, 2, -1, n -> hay.border(n));
        bounds("within", 0, 2, -1, n -> hay.within(n, 0));
        bounds("within of", 0, 2, -1, n -> hay.within(0, n));
        bounds("loads", 0, 2, -1, n -> hay.loads(n, 0));
        bounds("pieces", 0, 2, -1, n -> hay.pieces(n));
        bounds("piece of LINE", 0, 2, -1, n -> hay.piece(n, 0, 0));
        bounds("pieceAt", 0, 2, -1, n -> hay.pieceAt(n, 3, 4));
        bounds("crosses", 0, 2, -1, n -> hay.crosses(n, 3, 4, 1));
        bounds("least", 0, 2, -1, n -> hay.least(n, 0, 0));
        bounds("stiles", 0, 2, -1, n -> hay.stiles(n));
        bounds("walk", 0, 2, -2000, n -> hay.walk(n, 0));
        bounds("claims", 0, 2, -2000, n -> hay.claims(n));
    }

    private void lastOfEachKind() {
        about("no such ones: corners, HAYS, points, SQUARES, PIECES, what");
        parish(FIELD + "line q 1 1 20 1 20 20;hay h 3 3 1;hay k 4 4 2;");
        bounds("corner", 0, 3, THROWS, n -> hay.corner(0, n, 0));
        bounds("corner of three", 0, 2, THROWS, n -> hay.corner(1, n, 0));
        bounds("corner, what", 0, 2, THROWS, n -> hay.corner(0, 0, n));
        bounds("hay", 0, 1, THROWS, n -> hay.hay(n, 0));
        bounds("hay, what", 0, 2, THROWS, n -> hay.hay(0, n));
        bounds("line, what", 0, 3, -1, n -> hay.line(0, n));
        bounds("whose X", 0, 20, -1, n -> hay.whose(0, n, 4));
        bounds("whose Y", 0, 20, -1, n -> hay.whose(0, 4, n));
        bounds("round X", 0, 20, THROWS, n -> hay.round(0, n, 4));
        bounds("round Y", 0, 20, THROWS, n -> hay.round(0, 4, n));
        bounds("square X", 0, 19, -1, n -> hay.square(0, n, 4));
        bounds("square Y", 0, 19, -1, n -> hay.square(0, 4, n));
        bounds("loads, whose", 0, 1, -1, n -> hay.loads(0, n));
        bounds("heir X", 0, 19, -1, n -> hay.heir(n, 4));
        bounds("heir Y", 0, 19, -1, n -> hay.heir(4, n));
        bounds("estate", 0, 9, -1, n -> hay.estate(n));
        bounds("piece", 0, 1, -1, n -> hay.piece(0, n, 0));
        bounds("piece, what", 0, 4, -1, n -> hay.piece(0, 1, n));
        bounds("pieceAt X", 0, 19, -1, n -> hay.pieceAt(0, n, 4));
        bounds("pieceAt Y", 0, 19, -1, n -> hay.pieceAt(0, 4, n));
        bounds("crosses X", 0, 19, -1, n -> hay.crosses(0, n, 4, 0));
        bounds("crosses Y", 0, 19, -1, n -> hay.crosses(0, 4, n, 1));
        bounds("crosses, direction", 0, 3, -1, n -> hay.crosses(0, 4, 4, n));
        bounds("walk, HAY", 0, 1, -2000, n -> hay.walk(0, n));
        bounds("least, HAY", 0, 1, -1, n -> hay.least(0, n, 0));
        bounds("least, what", 0, 1, -1, n -> hay.least(0, 0, n));
        hay.walk(0, 0);
        bounds("walked, what", 0, 2, -1, n -> hay.walked(n));
    }

    private void throwing() {
        about("A call that throws changes nothing");
        parish(FIELD + "hay h 3 3 1;");
        hay.move(0, 0, 1, 1);
        claims(0, "h parish;");
        claims(0, "x");
        hay.feed(1, 2, 3, 4, 5);
        due("corner", THROWS, orThrows(() -> hay.corner(0, 4, 0)));
        due("hay", THROWS, orThrows(() -> hay.hay(1, 0)));
        due("round", THROWS, orThrows(() -> hay.round(0, 8, 8)));
        due("tape", 20, hay.count(7));
        due("MOVED", 1, hay.count(6));
        due("fault", 3, hay.fault());
        due("wrong", 0, hay.wrong());
        due("undo", 0, hay.undo());
    }

    private void turns() {
        about("1: to greater Y from greater X, as from east to south; -1: the other way; 0: on, or back");
        parish("line p 0 0 4 4 8 4 8 8 0 8;line q 0 0 10 0 10 10 5 2 0 10;line r 1 1 3 3 5 5 2 2 1 2;");
        int[][] due = {{1, -1, 1, 1, 1}, {1, 1, 1, -1, 1}, {1, 0, 0, -1, 1}};
        for (int line = 0; line < 3; line++) {
            for (int i = 0; i < 5; i++) {
                due("LINE " + line + " corner " + i, due[line][i], hay.corner(line, i, 2));
            }
        }
        about("turns at the first and the last corner: the last one is ahead of the first");
        parish("line p 0 0 4 0 2 0;line q 5 5 5 9 9 9;");
        due("on, from the last", 0, hay.corner(0, 0, 2));
        due("back", 0, hay.corner(0, 1, 2));
        due("on", 0, hay.corner(0, 2, 2));
        for (int i = 0; i < 3; i++) {
            due("from south to east", -1, hay.corner(1, i, 2));
        }
    }

    private void areas() {
        about("twice its area (corners one after another: X times the next Y, less the next X times Y, together)");
        parish(ALL + "line q 0 20 20 20 20 0 0 0;line r 3 3 9 3 6 3;");
        due("all", 800, hay.line(0, 1));
        due("the other way", -800, hay.line(1, 1));
        due("flat", 0, hay.line(2, 1));
        parish("line p 1 0 0 1 2 3;line q 7 7 8 7 7 8;" + "line r 0 0 20 0 20 20 0 20 0 0 20 0 20 20 0 20;");
        due("from the last corner to the first, too", -4, hay.line(0, 1));
        due("the least", 1, hay.line(1, 1));
        due("twice round", 1600, hay.line(2, 1));
        String twelve = "line p 0 0 20 0 20 20 19 20 19 1 2 1 2 20 1 20 1 19 1 18 0 18 0 17;";
        parish(twelve);
        due("12 corners", 2 * (20 + 19 + 19 + 17), hay.line(0, 1));
        parish(twelve);
        parish("line p 1 1 2 1 2 2;");
        due("3 corners, no other ones of a PARISH ahead", 1, hay.line(0, 1));
    }

    private void meets(int cross, int touch, String corners) {
        due("PARISH", 1, parish("line p " + corners + ";"));
        due(corners + ": EDGES that cross", cross, hay.line(0, 2));
        due(corners + ": EDGES that meet else", touch, hay.line(0, 3));
    }

    private void crossings() {
        about("pairs of EDGES that cross within both");
        meets(0, 0, "0 0 5 0 5 5");
        meets(1, 0, "0 0 4 4 4 0 0 4");
        meets(1, 0, "0 0 4 4 0 4 4 0");
        meets(5, 0, "10 0 16 18 0 7 20 7 4 18");
        meets(1, 0, "0 0 20 1 20 0 0 1");
        about("within both: not where a corner is");
        meets(0, 1, "0 0 4 0 2 0 2 4");
        meets(0, 1, "2 0 2 4 0 0 4 0");
        meets(0, 1, "2 4 2 0 4 0 0 0");
        meets(0, 2, "0 0 4 0 4 4 2 0 0 4");
        meets(0, 2, "2 0 0 4 0 0 4 0 4 4");
        meets(0, 2, "4 4 2 0 0 4 0 0 4 0");
        about("an EDGE that would cross another one's straight beyond its end");
        meets(0, 0, "0 0 4 0 4 8 2 1 0 8");
        meets(0, 0, "0 0 9 0 9 3 3 3 3 5 9 5 9 9 0 9");
    }

    private void touches() {
        about("pairs of EDGES not next to one another that meet anywhere else (touch, or lie on one another)");
        meets(0, 4, "0 0 4 0 2 2 4 4 0 4 2 2");
        meets(0, 3, "0 0 6 0 6 3 2 3 2 0 8 0 8 5 0 5");
        meets(0, 0, "0 0 2 0 2 2 4 2 4 0 6 0 6 5 0 5");
        meets(0, 1, "0 0 4 0 4 4 2 0");
        meets(0, 2, "0 0 5 5 0 0 5 5");
        about("EDGES next to one another, the last and the first too, do not count");
        meets(0, 0, "0 0 4 0 2 0");
        meets(0, 0, "0 0 4 0 8 0");
        meets(0, 0, "2 0 0 0 4 0");
    }

    private void on() {
        about("A point is ON it, if it is on an EDGE (from the last corner to the first, too)");
        parish("line p 4 4 10 4 10 8;");
        int[][] on = {{4, 4}, {10, 4}, {10, 8}, {7, 4}, {10, 6}, {7, 6}};
        int[][] off = {{3, 4}, {11, 4}, {10, 3}, {10, 9}, {1, 2}, {13, 10}, {8, 6}, {6, 6}, {5, 5}};
        for (int[] p : on) {
            due(p[0] + " " + p[1], 2, hay.whose(0, p[0], p[1]));
            due("no ROUND", THROWS, orThrows(() -> hay.round(0, p[0], p[1])));
        }
        for (int[] p : off) {
            due(p[0] + " " + p[1] + " is not ON it", true, hay.whose(0, p[0], p[1]) < 2);
            due("a ROUND", false, orThrows(() -> hay.round(0, p[0], p[1])) == THROWS);
        }
        parish("line p 4 4 10 4 10 8;edge his;");
        for (int[] p : on) {
            due(p[0] + " " + p[1] + " as edge tells", 3, hay.whose(0, p[0], p[1]));
        }
        for (int[] p : off) {
            due(p[0] + " " + p[1] + " as odd tells", true, hay.whose(0, p[0], p[1]) < 2);
        }
        about("whose: 0 to 20");
        parish(ALL);
        int[] rim = {0, 20};
        for (int x : rim) {
            for (int y : rim) {
                due(x + " " + y, 2, hay.whose(0, x, y));
            }
        }
        due("inside", 1, hay.whose(0, 1, 1) & hay.whose(0, 19, 19));
        parish("line p 1 1 19 1 19 19 1 19;");
        for (int x : rim) {
            for (int y : rim) {
                due(x + " " + y, 0, hay.whose(0, x, y));
                due("round", 0, hay.round(0, x, y));
            }
        }
    }

    private void round() {
        about("of its ends the lesser Y belongs to it, the greater one does not");
        parish("line p 2 5 5 2 8 5 5 8;line q 8 5 5 2 2 5 5 8;line r 5 2 8 5 5 8 2 5;");
        int[][] due = {{5, 5, 1}, {0, 5, 0}, {9, 5, 0}, {0, 2, 0}, {0, 8, 0}, {4, 5, 1}, {7, 5, 1}};
        for (int[] d : due) {
            due("round " + d[0] + " " + d[1], d[2], hay.round(0, d[0], d[1]));
            due("the other way", -d[2], hay.round(1, d[0], d[1]));
            due("from another corner", d[2], hay.round(2, d[0], d[1]));
        }
        about("an EDGE that lies on the way from the point straight to greater X");
        parish("line p 0 0 10 0 10 5 15 5 15 10 0 10;line q 0 0 15 0 15 5 10 5 10 10 0 10;"
            + "line r 0 0 20 0 20 10 15 10 15 5 10 5 10 10 0 10;");
        for (int line = 0; line < 3; line++) {
            due("inside, LINE " + line, 1, hay.round(line, 5, 5));
        }
        due("between, below the EDGE", 0, hay.round(2, 12, 8));
        due("beyond", 0, hay.round(0, 16, 5));
        parish("line p 5 5 15 5 15 9 12 9 12 5 8 5 8 9 5 9;");
        due("west of it, on the way along an EDGE", 0, hay.round(0, 0, 5));
        due("west of it, on the way along an EDGE", 0, hay.round(0, 0, 9));
        due("in the gap", 0, hay.round(0, 10, 7));

        about("how often the LINE goes round it");
        parish("line p 2 2 8 2 8 8 2 8 2 2 8 2 8 8 2 8 2 2 8 2 8 8 2 8;line q 0 0 20 20 20 0 0 20;"
            + "line r 2 8 8 8 8 2 2 2 2 8 8 8 8 2 2 2;");
        due("three times", 3, hay.round(0, 5, 5));
        due("the one half", -1, hay.round(1, 15, 10));
        due("the other half", 1, hay.round(1, 5, 10));
        due("neither", 0, hay.round(1, 10, 5));
        due("twice, the other way", -2, hay.round(2, 5, 5));
        due("not at all", 0, hay.round(2, 1, 5));
    }

    private void laws() {
        about("by odd: so many EDGES cross that way that they are odd; by round: ROUND is not 0; by left: above 0");
        String once = "line a 2 2 8 2 8 8 2 8;";
        String back = "line b 2 8 8 8 8 2 2 2;";
        String twice = TWICE.replace(" p ", " c ");
        String[] laws = {"odd", "round", "left"};
        int[][] due = {{1, 1, 0}, {1, 1, 1}, {1, 0, 1}};
        for (int law = 0; law < 3; law++) {
            parish(once + back + twice + "law " + laws[law] + ";");
            for (int line = 0; line < 3; line++) {
                due(laws[law] + " point, LINE " + line, due[law][line], hay.whose(line, 5, 5));
                due(laws[law] + " SQUARE, LINE " + line, due[law][line], hay.square(line, 5, 5));
                due(laws[law] + " acres, LINE " + line, 36 * due[law][line], hay.acres(line));
                due(laws[law] + " outside, LINE " + line, 0, hay.whose(line, 9, 9));
                due(laws[law] + " ON, LINE " + line, 2, hay.whose(line, 2, 2));
            }
        }
        parish("line p 0 0 20 20 20 0 0 20;law left;");
        due("left of the bow", 1, hay.whose(0, 5, 10));
        due("right of the bow", 0, hay.whose(0, 15, 10));
    }

    private void squares() {
        about("a SQUARE is HIS as its middle is (X and a half, Y and a half)");
        parish(FIELD);
        int[][] his = {{2, 2}, {7, 2}, {2, 7}, {7, 7}};
        int[][] not = {{1, 2}, {2, 1}, {8, 2}, {2, 8}, {8, 7}, {7, 8}, {0, 0}, {19, 19}};
        for (int[] s : his) {
            due(s[0] + " " + s[1], 1, hay.square(0, s[0], s[1]));
        }
        for (int[] s : not) {
            due(s[0] + " " + s[1], 0, hay.square(0, s[0], s[1]));
        }
        about("ON it as 'edge' tells (middles, at the first and the last SQUARE too)");
        for (int edge = 0; edge < 2; edge++) {
            String told = edge == 1 ? "edge his;" : "edge parish;";
            String[] diagonals = {HALF, "line p 20 20 0 0 20 0;"};
            for (String diagonal : diagonals) {
                parish(diagonal + told);
                for (int k = 0; k < 20; k++) {
                    due("SQUARE " + k, edge, hay.square(0, k, k));
                }
                due("acres", 190 + 20 * edge, hay.acres(0));
            }
            parish("line p 0 20 20 0 20 20;" + told);
            for (int k = 0; k < 20; k++) {
                due("SQUARE " + k, edge, hay.square(0, 19 - k, k));
            }
            due("acres", 190 + 20 * edge, hay.acres(0));
            parish("line p 5 5 6 6 5 6;" + told);
            due("one SQUARE", edge, hay.square(0, 5, 5));
            due("acres", edge, hay.acres(0));
            parish("line p 0 3 3 0 2 0 0 2;" + told);
            due("an EDGE through middles", edge, hay.square(0, 1, 1));
            parish("line p 0 0 1 3 0 3;" + told);
            due("an EDGE through one middle of three", edge, hay.square(0, 0, 1));
            due("beside it", 1, hay.square(0, 0, 2));
            due("beside it", 0, hay.square(0, 0, 0));
        }
        about("How many SQUARES are HIS by a LINE");
        parish(ALL + "line q 0 0 1 0 1 1 0 1;line r 19 19 20 19 20 20 19 20;");
        due("all", 400, hay.acres(0));
        due("the first", 1, hay.acres(1) * hay.square(1, 0, 0));
        due("the last", 1, hay.acres(2) * hay.square(2, 19, 19));
        parish("line p 5 0 5 20 5 10;" + "line q 0 0 0 20 0 10;edge his;");
        due("flat, between middles", 0, hay.acres(0));
        due("flat, along the rim", 0, hay.acres(1));
    }

    private void borders() {
        about("Sides between SQUARES that are HIS by a LINE and those that are not (or the rim)");
        parish(ALL + "line q 0 0 1 0 1 1 0 1;line r 19 19 20 19 20 20 19 20;");
        due("the rim alone", 80, hay.border(0));
        due("the first SQUARE", 4, hay.border(1));
        due("the last SQUARE", 4, hay.border(2));
        String ring = "line r 2 2 10 2 10 10 2 10 2 2 4 4 4 8 8 8 8 4 4 4;";
        parish(CHECKS + "line q 5 0 5 20 5 10;" + ring + "edge his;");
        due("SQUARES that touch at a corner", 8, hay.border(0));
        due("none is HIS", 0, hay.border(1));
        due("within and without", 32 + 16, hay.border(2));
        parish(ring);
        due("a SQUARE whose middle is ON it has four sides to HIS", 32 + 16 + 4, hay.border(0));
        parish(STRIP);
        due("a strip from rim to rim", 42, hay.border(0));
    }

    private void withinEachOther() {
        about("Corners of LINE a that are HIS by LINE b");
        String two = FIELD + "line q 2 2 5 5 8 8 9 9 1 1;";
        parish(two);
        due("ON it is the parish's", 1, hay.within(1, 0));
        due("itself", 0, hay.within(0, 0));
        parish(two + "edge his;");
        due("ON it is HIS", 3, hay.within(1, 0));
        due("itself", 4, hay.within(0, 0));
        parish(FIELD + "line q 5 5 6 6 5 5 6 6 5 5 6 6;");
        due("corners at one point count each", 6, hay.within(1, 0));
    }

    private void loads() {
        about("LOADS of HAYS that are HIS by a LINE (whose 1), the parish's (0)");
        parish(HALF + "hay a 0 0 1;hay b 1 0 2;hay c 0 1 4;hay d 19 19 8;hay f 3 3 16;");
        due("middles ON it are the parish's", 4, hay.loads(0, 1));
        due("the others", 27, hay.loads(0, 0));
        parish(HALF + "hay a 0 0 1;hay b 1 0 2;hay c 0 1 4;hay d 19 19 8;hay f 3 3 16;edge his;");
        due("middles ON it are HIS", 29, hay.loads(0, 1));
        due("the others", 2, hay.loads(0, 0));
        parish(ALL);
        due("no HAYS", 0, hay.loads(0, 0) + hay.loads(0, 1));
        StringBuilder ten = new StringBuilder(ALL);
        for (int k = 0; k < 10; k++) {
            ten.append("hay x").append((char) ('a' + k)).append(" 5 5 99;");
        }
        parish(ten.toString());
        due("the most", 990, hay.loads(0, 1));
        parish(ALL + "hay a 1 1 0;");
        due("none", 0, hay.loads(0, 1));
    }

    private void heirs() {
        about("a LINE that is not told: nothing is HIS");
        String two = "line p 1 1 3 1 3 3 1 3;line q 2 2 4 2 4 4 2 4;heirs 9 8 7 6;";
        parish(two);
        parish(two);
        parish("line p 1 1 3 1 3 3 1 3;heirs 9 8 7 6;");
        due("LINE 0 alone", 8, hay.heir(2, 2));
        due("not LINE 1 of the PARISH ahead", 9, hay.heir(3, 3));
        due("estate", 0, hay.estate(7) + hay.estate(6));
        hay.moved(0, 0, 0, 0, 0);
        parish("heirs 9 8 7 6;");
        due("no LINE at all", 9, hay.heir(2, 2));
        due("estate", 400, hay.estate(9));
        parish("line p 1 1 3 1 3 3 1 3;line q 2 2 4 2 4 4 2 4;line r 0 0 20 0 20 20 0 20;");
        due("LINE 2 tells nothing", 0, hay.heir(19, 19));
        due("LINE 2 tells nothing", 3, hay.heir(2, 2));

        about("How many SQUARES an heir (0 to 9) has");
        parish("line p 0 0 10 0 10 20 0 20;line q 0 0 20 0 20 10 0 10;heirs 0 9 0 9;");
        due("two parts", 200, hay.estate(0));
        due("two parts", 200, hay.estate(9));
        for (int heir = 1; heir < 9; heir++) {
            due("nothing", 0, hay.estate(heir));
        }
        parish("line p 0 0 10 0 10 20 0 20;line q 0 0 20 0 20 10 0 10;heirs 5 5 5 5;");
        due("all", 400, hay.estate(5));
    }

    private void pieces() {
        about("SQUARES of one owner that are joined by sides; numbered by their first SQUARE (by Y, then X)");
        parish(ALL + "line q 5 0 5 20 5 10;line r 0 0 1 0 1 1 0 1;");
        due("all HIS", 1, hay.pieces(0));
        due("none HIS", 1, hay.pieces(1));
        due("HIS", 1, hay.piece(0, 0, 1));
        due("not", 0, hay.piece(1, 0, 1));
        due("400", 400, hay.piece(0, 0, 0) * hay.piece(1, 0, 0) / 400);
        due("two", 2, hay.pieces(2));
        due("the first is 0", 0, hay.pieceAt(2, 0, 0));
        due("its size", 1, hay.piece(2, 0, 0));
        due("the other begins at 1 0", 1, hay.piece(2, 1, 2));
        due("the other begins at 1 0", 0, hay.piece(2, 1, 3));
        due("its size", 399, hay.piece(2, 1, 0));
        parish(CHECKS);
        due("corners do not join", 3, hay.pieces(0));
        int[][] due = {{1, 1, 0, 0, 1}, {398, 0, 1, 0, 2}, {1, 1, 1, 1, 1}};
        for (int p = 0; p < 3; p++) {
            for (int what = 0; what < 5; what++) {
                due("PIECE " + p + " what " + what, due[p][what], hay.piece(0, p, what));
            }
        }
        parish("line p 5 3 8 3 8 9 2 9 2 6 5 6;line q 19 19 20 19 20 20 19 20;");
        due("first by Y, then X", 5, hay.piece(0, 1, 2));
        due("first by Y, then X", 3, hay.piece(0, 1, 3));
        due("its west, too", 1, hay.pieceAt(0, 2, 8));
        due("the last SQUARE", 1, hay.pieceAt(1, 19, 19));
        due("its place", 19, hay.piece(1, 1, 2));
        due("its place", 19, hay.piece(1, 1, 3));
        parish("line p 1 1 4 1 4 4 1 4 1 1 2 2 2 3 3 3 3 2 2 2;");
        due("one in the other", 3, hay.pieces(0));
        due("the middle is the parish's, but a PIECE of its own", 2, hay.pieceAt(0, 2, 2));
    }

    private void beside() {
        about("BESIDE: two PIECES with a side between them; how many PIECES are BESIDE it");
        parish(STRIPS);
        due("strips", 7, hay.pieces(0));
        int[] due = {1, 2, 2, 2, 2, 2, 1};
        for (int p = 0; p < 7; p++) {
            due("BESIDE " + p, due[p], hay.piece(0, p, 4));
            due("HIS " + p, p % 2, hay.piece(0, p, 1));
        }
        parish(ALL + "line q 0 0 1 0 1 1 0 1;line r 4 4 6 4 6 6 4 6;");
        due("alone", 0, hay.piece(0, 0, 4));
        due("the first SQUARE", 1, hay.piece(1, 0, 4));
        due("beside the first SQUARE", 1, hay.piece(1, 1, 4));
        due("by many sides, once", 1, hay.piece(2, 1, 4));
        parish(CHECKS);
        due("a corner is no side", 1, hay.piece(0, 0, 4));
    }

    /** By left nothing but the middles ON six diagonals is HIS: so SQUARES between them are PIECES of their own, too. */
    private void manyPieces() {
        about("PIECES of one SQUARE each: of X - Y from 0 to 10");
        parish("line p 0 0 20 20 20 18 2 0 4 0 20 16 20 14 6 0 8 0 20 12 20 10 10 0;law left;edge his;"
            + "hay a 19 0 1;hay b 19 19 1;hay c 10 0 1;church 0 19;");
        due("HIS", 20 + 18 + 16 + 14 + 12 + 10, hay.acres(0));
        due("PIECES", 90 + 19 + 17 + 15 + 13 + 11 + 2, hay.pieces(0));
        int sum = 0;
        int squares = 0;
        for (int p = 0; p < 167; p++) {
            sum += hay.piece(0, p, 4);
            squares += hay.piece(0, p, 0);
        }
        due("BESIDE, from both", 2 * (2 * (19 + 18 + 17 + 16 + 15 + 14 + 13 + 12 + 11 + 10) + 20 + 10), sum);
        due("all SQUARES", 400, squares);
        due("no more", -1, hay.piece(0, 167, 0));
        due("the last begins where the last SQUARE is", 166, hay.pieceAt(0, 19, 19));
        due("its four neighbours", 4, hay.piece(0, hay.pieceAt(0, 8, 5), 4));
        due("over all diagonals, past c; b is beside the church's PIECE", 12 + 1, hay.stiles(0));
        parish(FIELD + "hay a 3 3 1;");
        due("two PIECES after so many", 1, hay.stiles(0));
    }

    private void stepsOverMiddles() {
        about("the western, northern middle not counted, the eastern, southern one counted");
        String[] diagonals = {HALF, "line p 20 20 0 0 20 0;"};
        for (String diagonal : diagonals) {
            parish(diagonal);
            for (int k = 0; k < 19; k++) {
                due("east, from the middle", 0, hay.crosses(0, k, k, 1));
                due("south, from the middle", 0, hay.crosses(0, k, k, 2));
                due("east, to the middle", 1, hay.crosses(0, k, k + 1, 1));
                due("south, to the middle", 1, hay.crosses(0, k + 1, k, 2));
                due("west, from the eastern middle", 1, hay.crosses(0, k + 1, k + 1, 3));
                due("west, to the western middle", 0, hay.crosses(0, k + 1, k, 3));
                due("north, from the southern middle", 1, hay.crosses(0, k + 1, k + 1, 0));
                due("north, to the northern middle", 0, hay.crosses(0, k, k + 1, 0));
            }
            renew();
        }
        parish("line p 0 20 20 0 20 20;");
        due("east, to the middle", 1, hay.crosses(0, 9, 9, 1));
        due("east, from the middle", 0, hay.crosses(0, 10, 9, 1));
        due("south, to the middle", 1, hay.crosses(0, 10, 8, 2));
        due("south, from the middle", 0, hay.crosses(0, 10, 9, 2));

        about("a little west and a little east of a middle, a little north and a little south of it");
        parish("line p 0 5 20 6 20 20 0 20;line q 5 0 6 20 0 20 0 0;");
        due("north of the middle", 1, hay.crosses(0, 9, 4, 2));
        due("north of the middle", 0, hay.crosses(0, 9, 5, 2));
        due("south of the middle", 0, hay.crosses(0, 10, 4, 2));
        due("south of the middle", 1, hay.crosses(0, 10, 5, 2));
        due("west of the middle", 1, hay.crosses(1, 4, 9, 1));
        due("west of the middle", 0, hay.crosses(1, 5, 9, 1));
        due("east of the middle", 0, hay.crosses(1, 4, 10, 1));
        due("east of the middle", 1, hay.crosses(1, 5, 10, 1));
        due("its SQUARE is HIS as the middle is", 1, hay.square(0, 9, 5));
        due("its SQUARE is HIS as the middle is", 0, hay.square(0, 10, 5));
        due("its SQUARE is HIS as the middle is", 0, hay.square(1, 5, 9));
        due("its SQUARE is HIS as the middle is", 1, hay.square(1, 5, 10));

        about("an EDGE that lies along it crosses it never");
        parish("line p 5 5 9 5 9 9 5 9;line q 5 5 15 5 10 5;");
        for (int x = 4; x < 16; x++) {
            int sides = x == 4 || x == 8 ? 1 : 0;
            due("east, below an EDGE", sides, hay.crosses(0, x, 5, 1));
            due("east, above an EDGE", 0, hay.crosses(0, x, 4, 1));
            due("over two EDGES that lie on one another", x >= 5 && x < 15 ? 2 : 0, hay.crosses(1, x, 4, 2));
            due("along them", 0, hay.crosses(1, x, 4, 1) + hay.crosses(1, x, 5, 1));
        }
        about("as often as EDGES cross the way");
        parish("line p 10 0 10 20 11 0 10 20 9 0 10 20 10 1;");
        due("six EDGES within one STEP", 6, hay.crosses(0, 9, 10, 1));
        due("none in the next", 0, hay.crosses(0, 10, 10, 1));
    }

    private void stepsAtTheRim() {
        about("NONE: it leaves the SQUARES");
        parish(ALL);
        for (int k = 0; k < 20; k++) {
            due("north", -1, hay.crosses(0, k, 0, 0));
            due("east", -1, hay.crosses(0, 19, k, 1));
            due("south", -1, hay.crosses(0, k, 19, 2));
            due("west", -1, hay.crosses(0, 0, k, 3));
        }
        int[][] first = {{0, 0, 1}, {0, 0, 2}, {19, 0, 3}, {19, 0, 2}, {0, 19, 0}, {0, 19, 1}, {19, 19, 0}, {19, 19, 3}};
        for (int[] s : first) {
            due("an EDGE along the rim is never crossed", 0, hay.crosses(0, s[0], s[1], s[2]));
        }
        parish("line p 1 0 1 20 20 20 20 0;line q 0 1 20 1 20 20 0 20;line r 19 0 20 0 20 20 19 20;");
        due("the first column", 1, hay.crosses(0, 0, 0, 1));
        due("the first column", 1, hay.crosses(0, 1, 19, 3));
        due("the first row", 1, hay.crosses(1, 0, 0, 2));
        due("the first row", 1, hay.crosses(1, 19, 1, 0));
        due("the last column", 1, hay.crosses(2, 18, 0, 1));
        due("the last column", 1, hay.crosses(2, 19, 19, 3));
        parish("line p 0 19 20 19 20 20 0 20;");
        due("the last row", 1, hay.crosses(0, 0, 18, 2));
        due("the last row", 1, hay.crosses(0, 19, 19, 0));
    }

    private void walks() {
        about("A WALK from the SQUARE of a HAY by a LINE: how often it CROSSES");
        parish(TWICE + "line q 0 0 20 20 0 20;hay h 0 5 1;hay k 10 10 1;");
        due("EDGES on one another count each", 4, walk(0, 0, "e 19;"));
        due("to and fro", 8, walk(0, 0, "e 19;w 19;"));
        due("as STEPS do: to a middle", 1, walk(1, 0, "e 5;"));
        due("and on", 1, walk(1, 0, "e 6;"));
        due("from a middle", 0, walk(1, 1, "e 1;"));
        due("from a middle, the other way", 1, walk(1, 1, "w 1;"));
        about("Where the latest walk() that had no FAULT (and was not -2000) came to");
        for (int what = 0; what < 3; what++) {
            due("ahead of any", -1, hay.walked(what));
        }
        parish(FIELD + "hay h 0 5 1;hay k 19 0 1;");
        walk(0, 0, "e 2;x");
        walk(1, 0, "e 2;");
        walk(0, 2, "e 2;");
        due("ahead of any without a FAULT", -1, hay.walked(0));
        walk(0, 1, "w 2;s 1;");
        int[] there = {17, 1, 3};
        for (int k = 0; k < 4; k++) {
            for (int what = 0; what < 3; what++) {
                due("walked " + what, there[what], hay.walked(what));
            }
            due("no other what", -1, hay.walked(3));
            due("FAULT or -2000", true, walk(0, k == 3 ? 2 : 0, k == 0 ? "w 1;" : k == 1 ? "e 1;;" : "e 21;") < 0);
        }
        parish("");
        due("a new PARISH leaves it", 17, hay.walked(0));
        parish(FIELD + "hay h 0 0 1;");
        walk(0, 0, "");
        due("no STEPS", 0, hay.walked(0) + hay.walked(1) + hay.walked(2));
    }

    private void least() {
        about("walks from SQUARE to SQUARE that CROSS a LINE least; of these with fewest STEPS");
        parish("line p 5 0 6 0 6 19 5 19;hay h 0 0 1;hay k 19 0 1;hay l 5 5 1;church 0 0;");
        due("there already", 0, hay.least(0, 0, 0) + hay.least(0, 0, 1));
        due("from the east, round the end", 0, hay.least(0, 1, 0));
        due("south, west, north", 57, hay.least(0, 1, 1));
        due("out of it", 1, hay.least(0, 2, 0));
        due("STEPS", 10, hay.least(0, 2, 1));
        parish("line p 5 0 6 0 6 20 5 20;hay h 19 0 1;hay k 19 19 1;church 0 0;");
        due("no way round", 2, hay.least(0, 0, 0));
        due("straight", 19, hay.least(0, 0, 1));
        due("from the last SQUARE to the first", 38, hay.least(0, 1, 1));
        parish("line p 0 0 20 0 20 20 0 20;hay h 0 0 1;church 19 19;");
        due("from the first to the last", 38, hay.least(0, 0, 1));
        due("nothing to cross", 0, hay.least(0, 0, 0));
        String band = "line p 0 1 19 1 19 3 1 3 1 5 20 5 20 7 0 7;";
        parish(band + "hay h 0 0 1;church 0 8;");
        due("in and out", 2, hay.least(0, 0, 0));
        due("straight", 8, hay.least(0, 0, 1));
        parish(band + "hay h 10 0 1;church 10 8;");
        due("straight would be 4", 2, hay.least(0, 0, 0));
        due("round the eastern end, not the western one", 26, hay.least(0, 0, 1));

        about("LEAST CROSSED: STEPS over a middle count as crosses() does");
        parish(HALF + "hay h 0 1 1;hay k 1 0 1;hay l 2 1 1;church 1 1;");
        due("straight to the east would cross", 1, hay.crosses(0, 0, 1, 1));
        due("to the middle from the south", 0, hay.least(0, 0, 0));
        due("is farther", 3, hay.least(0, 0, 1));
        due("straight to the south would cross", 1, hay.crosses(0, 1, 0, 2));
        due("to the middle from the east", 0, hay.least(0, 1, 0));
        due("is farther", 3, hay.least(0, 1, 1));
        due("straight to the west does not cross", 0, hay.least(0, 2, 0));
        due("one STEP", 1, hay.least(0, 2, 1));
    }

    private void stiles() {
        about("the fewest by which one comes from the SQUARES of all HAYS to the church");
        int[] columns = {0, 2, 4, 6, 8, 10, 12};
        String names = "abcdfgh";
        for (int church = 0; church < 7; church++) {
            StringBuilder text = new StringBuilder(STRIPS).append("church ").append(columns[church]).append(" 7;");
            for (int k = 0; k < 7; k++) {
                if (k != church) {
                    text.append("hay ").append(names.charAt(k)).append(' ').append(columns[k]).append(" 3 1;");
                }
            }
            parish(text.toString());
            due("seven PIECES in a row", 6, hay.stiles(0));
        }
        parish(STRIPS + "church 0 0;hay a 12 0 1;");
        due("from end to end", 6, hay.stiles(0));
        parish(STRIPS + "church 6 0;hay a 0 0 1;hay b 19 19 1;");
        due("from both ends", 6, hay.stiles(0));
        parish(STRIPS + "church 6 0;hay a 6 19 1;hay b 7 3 1;");
        due("within a PIECE one goes freely", 0, hay.stiles(0));
        parish(STRIPS + "church 6 0;");
        due("no HAYS", 0, hay.stiles(0));
        parish(STRIPS + "hay a 3 3 1;");
        due("church 0 0 without", 1, hay.stiles(0));
        parish(STRIPS + "church 19 0;hay a 3 3 1;hay b 2 9 1;");
        due("one way for both", 5, hay.stiles(0));

        about("NONE: more than 6 HAYS");
        String[] more = {"a", "b", "c", "d", "f", "g", "h"};
        StringBuilder text = new StringBuilder(FIELD);
        for (int k = 0; k < 7; k++) {
            parish(text.toString());
            due(k + " HAYS", k == 0 ? 0 : 1, hay.stiles(0));
            text.append("hay ").append(more[k]).append(" 3 3 1;");
        }
        parish(text.toString());
        due("7 HAYS", -1, hay.stiles(0));
        parish(text + "hay i 1 1 1;hay j 1 1 1;hay k 1 1 1;");
        due("10 HAYS", -1, hay.stiles(0));

        about("STILES that meet in a PIECE without a HAY");
        parish("line p 2 2 2 4 4 4 4 2 10 2 10 4 12 4 12 2 18 2 18 4 20 4 20 2;"
            + "hay a 11 3 1;hay b 19 3 1;church 3 3;");
        due("three ways that meet", 3, hay.stiles(0));
        parish(CHECKS + "hay a 0 0 1;church 1 1;");
        due("a corner is no way", 2, hay.stiles(0));
    }
}
