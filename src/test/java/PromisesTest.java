/** For each promise of the document ordinary inputs, the edges that it names, and wrong inputs. */
public final class PromisesTest extends Trial {
    private PromisesTest(int number) {
        about("promise " + number);
    }

    private static PromisesTest promise(int number) {
        return new PromisesTest(number);
    }

    public static void main(String[] args) {
        promise(1).newObject();
        promise(2).feed();
        promise(3).end();
        promise(4).parishes();
        promise(4).parishFaults();
        promise(4).parishLengths();
        promise(5).fault();
        promise(6).corner();
        promise(7).hay();
        promise(8).line();
        promise(9).whose();
        promise(10).round();
        promise(11).square();
        promise(12).acres();
        promise(13).border();
        promise(14).within();
        promise(15).claimed();
        promise(16).wrong();
        promise(17).loads();
        promise(18).heir();
        promise(19).estate();
        promise(20).pieces();
        promise(21).piece();
        promise(22).pieceAt();
        promise(23).crosses();
        promise(24).walks();
        promise(25).walked();
        promise(26).least();
        promise(27).stiles();
        promise(28).move();
        promise(29).shift();
        promise(30).moved();
        promise(31).nights();
        promise(32).undo();
        promise(33).byNights();
        promise(34).ways();
        promise(35).way();
        promise(36).rectangles();
        promise(37).side();
        promise(38).pace();
        promise(39).paced();
        promise(40).image();
        promise(41).restore();
        promise(42).count();
        close("promises");
    }

    private void newObject() {
        int[] counts = {0, 0, 0, 0, 0, 0, 0, 0};
        for (int what = 0; what < 8; what++) {
            due("count " + what, counts[what], hay.count(what));
        }
        due("NONE", -1, OddHay.NONE);
        due("fault", 0, hay.fault());
        due("heir", 0, hay.heir(19, 19));
        due("estate", 400, hay.estate(0));
        due("acres", -1, hay.acres(0));
        due("undo", -1, hay.undo());
    }

    private void feed() {
        due("first", 20, hay.feed(1, 2, 3, 4, 5));
        due("second", 40, hay.feed(0, 0, 0, 0, 0));
        for (int k = 3; k <= 47; k++) {
            due("feed " + k, 20 * k, hay.feed(-1, -1, -1, -1, -1));
        }
        due("beyond 940", -1, hay.feed(0, 0, 0, 0, 0));
        due("none came", 940, hay.count(7));
        hay.end(921);
        due("21 too few are left", -1, hay.feed(0, 0, 0, 0, 0));
        hay.end(920);
        due("just enough", 940, hay.feed(0, 0, 0, 0, 0));
        hay.end(0);
        hay.feed(0x01020190, 0, 0, 0, 0);
        hay.end(3);
        due("the highest byte comes first: point 1 2 is told", 4, hay.rectangle());
        due("X1", 0, hay.side(0));
        due("Y1", 1, hay.side(1));
        hay.feed(0x01900100, 0, 0, 0, 0);
        hay.end(3);
        due("a byte above 127 is no number below 0", -2, hay.rectangle());
    }

    private void end() {
        due("of none", true, hay.end(0));
        due("1 of none", false, hay.end(1));
        hay.feed(1, 2, 3, 4, 5);
        due("below 0", false, hay.end(-1));
        due("least int", false, hay.end(Integer.MIN_VALUE));
        due("too many", false, hay.end(21));
        due("stays", 20, hay.count(7));
        due("all", true, hay.end(20));
        due("some", true, hay.end(7));
        due("count", 7, hay.count(7));
        due("no more than these", false, hay.end(8));
    }

    private void parishes() {
        sound(0, "");
        sound(0, " \n \n");
        sound(1, FIELD);
        sound(6, "line p 0 0 20 20 0 20;hay h 19 19 99;church 19 0;law left;edge his;heirs 9 8 7 6;");
        due("law", 2, hay.count(4));
        due("edge", 1, hay.count(5));
        due("church X", 19, hay.count(2));
        due("tape", 0, hay.count(7));
        sound(1, "\nline\np 1 1\n2 2 3 1  ; ");
        sound(1, "line p 1 1 2 2 3 1 4 4 5 1 6 6 7 1 8 8 9 1 10 10 11 1 12 12;");
        due("twelve corners", 12, hay.line(0, 0));
        sound(1, "line abcdefg 01 1 2 02 3 1;");
        due("leading zero", 1, hay.corner(0, 0, 0));
        sound(2, "hay points 0 0 0;hay lin 0 0 0;");
        sound(1, "law odd;");
        sound(1, "law round;");
        due("round", 1, hay.count(4));
        due("lines are gone", 0, hay.count(0));
        sound(1, "edge parish;");
        sound(3, FIELD + "line q 0 0 1 1 0 1;line r 0 0 1 1 0 1;");
        sound(1, "line p 0 0 5 5 0 0 5 5;");
        sound(0, "");
        due("an empty text is a PARISH, too", 0, hay.count(0));
    }

    private void parishFaults() {
        sound(2, FIELD + "hay k 1 2 3;");
        faulty(1, 0, "x");
        faulty(1, 0, ";");
        faulty(1, 0, "7");
        faulty(1, 0, "n 1;");
        faulty(1, 0, "point");
        faulty(1, 0, "lines");
        faulty(1, 1, " Line");
        faulty(1, 4, "line");
        faulty(1, 6, "line  ");
        faulty(1, 5, "line 5");
        faulty(1, 5, "line ;");
        faulty(1, 5, "line n 1 1");
        faulty(1, 5, "line point 1 1");
        faulty(1, 5, "line parish 1 1");
        faulty(1, 5, "line on 1 1");
        faulty(1, 5, "line abcdefgh 1 1");
        faulty(1, 5, "line p1 1 1");
        faulty(1, 5, "line 1p 1 1");
        faulty(1, 6, "line p;");
        faulty(1, 8, "line p 1;");
        faulty(1, 7, "line p x");
        faulty(1, 7, "line p 100 1");
        faulty(2, 7, "line p 21 1");
        faulty(2, 9, "line p 1 21 2 2");
        faulty(4, 10, "line p 1 1;");
        faulty(4, 14, "line p 1 1 2 2;");
        faulty(3, 13, "line p 1 1 1 1 2 2");
        faulty(3, 22, "line p 1 1 2 2 3 3 1 1;");
        faulty(3, 19, "line p 1 1 2 2 1 1 ;");
        String twelve = "line p 1 1 2 2 3 1 4 4 5 1 6 6 7 1 8 8 9 1 1 0 1 1 2 2";
        faulty(4, twelve.length() + 1, twelve + " 3 3;");
        faulty(2, twelve.length() + 1, twelve + " 21 3;");
        faulty(1, twelve.length() + 1, twelve + " x 3;");
        faulty(1, twelve.length(), twelve);
        faulty(3, FIELD.length() + 5, FIELD + "line p 1 1");
        faulty(3, FIELD.length() + 4, FIELD + "hay p 1 1 1;");
        faulty(3, 17, "hay h 0 0 1; hay h 0 0 1;");
        String three = FIELD + "line q 0 0 1 1 0 1;line r 0 0 1 1 0 1;";
        faulty(4, three.length(), three + "line p");
        faulty(1, 4, "hay 1");
        faulty(2, 6, "hay h 20 1 1;");
        faulty(2, 8, "hay h 1 20 1;");
        faulty(1, 10, "hay h 1 1 100;");
        faulty(1, 9, "hay h 1 1;");
        faulty(1, 12, "hay h 1 1 1 1;");
        StringBuilder hays = new StringBuilder();
        for (char c = 'a'; hays.length() < 120; c++) {
            hays.append(c == 'e' ? "" : "hay " + c + " 0 0 1;");
        }
        faulty(4, 120, hays + "hay a 0 0 1;");
        faulty(2, 7, "church 20 0;");
        faulty(2, 9, "church 0 20;");
        faulty(1, 11, "church 0 0 0;");
        faulty(3, 11, "church 0 0;church 1 1;");
        faulty(1, 4, "law his;");
        faulty(1, 4, "law 1;");
        faulty(3, 8, "law odd;law odd;");
        faulty(1, 5, "edge on;");
        faulty(3, 9, "edge his;edge parish;");
        faulty(2, 6, "heirs 10 0 0 0;");
        faulty(1, 11, "heirs 1 2 3;");
        faulty(1, 14, "heirs 1 2 3 4 5;");
        faulty(3, 14, "heirs 1 2 3 4;heirs 1 2 3 4;");
        faulty(1, 8, "law odd;.");
        faulty(1, 7, "law odd\t;");
        faulty(1, 7, "law odd" + (char) 0);
        faulty(1, 8, "law odd " + (char) 233);
        due("the old PARISH stays", 1, hay.count(0));
        due("with its hay", 3, hay.hay(0, 2));
        due("tape", 0, hay.count(7));
    }

    private void parishLengths() {
        String blanks = " ".repeat(940);
        sound(1, "law odd;" + blanks.substring(0, 892));
        faulty(1, 900, "law odd;" + blanks.substring(0, 893));
        faulty(1, 900, blanks);
        faulty(1, 899, blanks.substring(0, 899) + "x       ");
        faulty(1, 896, blanks.substring(0, 896) + "churches");
        renew();
        faulty(1, 900, blanks.substring(0, 896) + "church 1 1;");
        faulty(2, 899, blanks.substring(0, 892) + "church 20 1;");
        faulty(1, 900, blanks.substring(0, 892) + "church 19 1;");
        faulty(1, 900, blanks.substring(0, 893) + "law odd;");
        sound(1, blanks.substring(0, 892) + "law odd;");
        faulty(1, 900, blanks.substring(0, 900) + "X");
    }

    private void fault() {
        due("ahead of any", 0, hay.fault());
        parish("law x;");
        due("parish", 1, hay.fault());
        due("no such line", -2000, claims(0, "x"));
        due("left", 1, hay.fault());
        due("no such hay", -2000, walk(0, 0, "x"));
        due("left", 1, hay.fault());
        parish(FIELD + "hay h 0 0 1;");
        due("none", 0, hay.fault());
        claims(0, "z his;");
        due("claims", 3, hay.fault());
        walk(0, 0, "n 1;");
        due("walk", 5, hay.fault());
        due("no such line", -2000, claims(7, ""));
        due("left", 5, hay.fault());
        paces("n 1;");
        due("paces", 4, hay.fault());
        walk(0, 0, "");
        due("walk", 0, hay.fault());
    }

    private void corner() {
        parish("line p 2 2 8 2 8 8 2 8;line q 0 0 0 5 0 9 0 4;");
        due("X", 8, hay.corner(0, 2, 0));
        due("Y", 8, hay.corner(0, 3, 1));
        for (int i = 0; i < 4; i++) {
            due("turn", 1, hay.corner(0, i, 2));
        }
        due("on", 0, hay.corner(1, 1, 2));
        due("back", 0, hay.corner(1, 2, 2));
        parish("line p 2 8 8 8 8 2 2 2;");
        due("the other way", -1, hay.corner(0, 0, 2));
        due("the other way", -1, hay.corner(0, 3, 2));
        int[][] none = {{1, 0, 0}, {-1, 0, 0}, {0, 4, 0}, {0, -1, 0}, {0, 0, 3}, {0, 0, -1}, {0, 12, 0}, {3, 0, 0}};
        for (int[] n : none) {
            due("no such", THROWS, orThrows(() -> hay.corner(n[0], n[1], n[2])));
        }
    }

    private void hay() {
        parish("hay b 3 4 99;hay a 19 0 0;");
        due("X", 3, hay.hay(0, 0));
        due("Y", 4, hay.hay(0, 1));
        due("LOADS", 99, hay.hay(0, 2));
        due("in their order", 19, hay.hay(1, 0));
        due("no LOADS", 0, hay.hay(1, 2));
        int[][] none = {{2, 0}, {-1, 0}, {0, 3}, {0, -1}, {10, 0}};
        for (int[] n : none) {
            due("no such", THROWS, orThrows(() -> hay.hay(n[0], n[1])));
        }
    }

    private void line() {
        parish(BOW + "line q 0 0 4 0 4 4 2 0 0 4;line r 0 5 0 0 5 0;");
        due("corners", 4, hay.line(0, 0));
        due("area of a bow", 0, hay.line(0, 1));
        due("a crossing", 1, hay.line(0, 2));
        due("no touch", 0, hay.line(0, 3));
        due("a corner on an EDGE is no crossing", 0, hay.line(1, 2));
        due("two EDGES touch a third", 2, hay.line(1, 3));
        due("area", 25, hay.line(2, 1));
        parish(TWICE + "line q 2 8 8 8 8 2 2 2;line r 0 0 4 0 2 0 6 0;");
        due("twice round", 144, hay.line(0, 1));
        due("EDGES that lie on one another do not cross", 0, hay.line(0, 2));
        due("they meet, and at corners too", 12, hay.line(0, 3));
        due("the other way", -72, hay.line(1, 1));
        due("next to one another does not count", 2, hay.line(2, 3));
        due("another what", -1, hay.line(0, 4));
        due("another what", -1, hay.line(0, -1));
        due("no such line", -1, hay.line(3, 0));
        due("no such line", -1, hay.line(-1, 0));
    }

    private void whose() {
        parish(TWICE + "line q 8 8 8 2 2 2 2 8;law odd;");
        due("twice round is even", 0, hay.whose(0, 5, 5));
        due("on", 2, hay.whose(0, 2, 5));
        due("the other way round is odd, too", 1, hay.whose(1, 5, 5));
        parish(TWICE + "line q 8 8 8 2 2 2 2 8;law round;edge his;");
        due("twice round", 1, hay.whose(0, 5, 5));
        due("on", 3, hay.whose(0, 8, 8));
        due("the other way round", 1, hay.whose(1, 5, 5));
        due("outside, in the row of an EDGE", 0, hay.whose(0, 0, 2));
        due("outside, in the row of an EDGE", 0, hay.whose(0, 0, 8));
        parish(TWICE + "line q 8 8 8 2 2 2 2 8;law left;");
        due("twice round", 1, hay.whose(0, 5, 5));
        due("the other way round", 0, hay.whose(1, 5, 5));
        parish("line p 2 5 5 2 8 5 5 8;");
        due("in the row of two corners", 1, hay.whose(0, 5, 5));
        due("west of a corner that is only touched", 0, hay.whose(0, 2, 2));
        due("west of a corner that is only touched", 0, hay.whose(0, 2, 8));
        due("west of it all", 0, hay.whose(0, 0, 5));
        int[][] none = {{1, 0, 0}, {-1, 0, 0}, {0, 21, 0}, {0, -1, 0}, {0, 0, 21}, {0, 0, -1}};
        for (int[] n : none) {
            due("no such", -1, hay.whose(n[0], n[1], n[2]));
        }
        due("the last point", 0, hay.whose(0, 20, 20));
    }

    private void round() {
        parish(TWICE + "line q 8 8 8 2 2 2 2 8;");
        due("twice", 2, hay.round(0, 5, 5));
        due("the other way", -1, hay.round(1, 5, 5));
        due("not at all", 0, hay.round(0, 20, 20));
        int[][] none = {{0, 2, 2}, {0, 8, 5}, {2, 0, 0}, {-1, 0, 0}, {0, 21, 0}, {0, 0, -1}};
        for (int[] n : none) {
            due("no such", THROWS, orThrows(() -> hay.round(n[0], n[1], n[2])));
        }
    }

    private void square() {
        parish("line p 0 0 20 20 0 20;");
        due("its middle is on the LINE", 0, hay.square(0, 7, 7));
        due("below", 1, hay.square(0, 6, 7));
        due("above", 0, hay.square(0, 8, 7));
        parish("line p 0 0 20 20 0 20;edge his;");
        due("its middle is on the LINE", 1, hay.square(0, 7, 7));
        int[][] none = {{1, 0, 0}, {-1, 0, 0}, {0, 20, 0}, {0, -1, 0}, {0, 0, 20}, {0, 0, -1}};
        for (int[] n : none) {
            due("no such", -1, hay.square(n[0], n[1], n[2]));
        }
    }

    private void acres() {
        parish(FIELD);
        due("a field", 36, hay.acres(0));
        parish("line p 0 0 20 0 20 20 0 20;line q 0 0 20 20 0 20;line r 5 5 9 5 7 5;");
        due("all", 400, hay.acres(0));
        due("half, less the middles", 190, hay.acres(1));
        due("flat", 0, hay.acres(2));
        due("no such", -1, hay.acres(3));
        due("no such", -1, hay.acres(-1));
        parish(TWICE + "law odd;");
        due("even", 0, hay.acres(0));
        parish(TWICE + "law round;");
        due("round", 36, hay.acres(0));
    }

    private void border() {
        parish(FIELD + "line q 0 0 20 0 20 20 0 20;line r 5 5 9 5 7 5;");
        due("a field", 24, hay.border(0));
        due("the rim", 80, hay.border(1));
        due("flat", 0, hay.border(2));
        due("no such", -1, hay.border(3));
        due("no such", -1, hay.border(-1));
    }

    private void within() {
        parish(FIELD + "line q 5 5 9 5 9 9 5 9;");
        due("one", 1, hay.within(1, 0));
        due("the other", 1, hay.within(0, 1));
        due("itself, as the parish's", 0, hay.within(0, 0));
        parish(FIELD + "line q 5 5 8 5 9 9 5 8;edge his;");
        due("on it", 3, hay.within(1, 0));
        due("itself", 4, hay.within(0, 0));
        due("no such", -1, hay.within(2, 0));
        due("no such", -1, hay.within(0, 2));
        due("no such", -1, hay.within(-1, 0));
        due("no such", -1, hay.within(0, -1));
    }

    private void claimed() {
        parish(FIELD + "hay h 3 3 1;hay k 12 3 1;");
        due("none", 0, claims(0, ""));
        due("all so", 0, claims(0, "point 5 5 his;point 2 2 on;point 2 2 parish;point 9 9 parish;h his;k parish;"));
        due("none so", 6, claims(0, "point 5 5 parish;point 2 2 his;point 5 5 on;point 9 9 his;h parish;k his;"));
        claimsFaulty(1, 0, "his his;");
        claimsFaulty(1, 0, "line his;");
        claimsFaulty(1, 0, "5");
        claimsFaulty(3, 0, "p his;");
        claimsFaulty(3, 0, "nobody his;");
        claimsFaulty(1, 2, "h on;");
        claimsFaulty(1, 1, "h;");
        claimsFaulty(1, 5, "point;");
        claimsFaulty(2, 6, "point 21 1 his;");
        claimsFaulty(2, 8, "point 1 21 his;");
        claimsFaulty(1, 10, "point 1 1 h;");
        claimsFaulty(1, 9, "point 1 1;");
        claimsFaulty(1, 5, "h his");
        claimsFaulty(1, 6, "h his his;");
        String thirty = "h his;".repeat(30);
        due("30 ROWS", 0, claims(0, thirty));
        claimsFaulty(4, 180, thirty + "h his;");
        claimsFaulty(4, 180, thirty + "point 1 1 his;");
        claimsFaulty(3, 180, thirty + "p his;");
        claimsFaulty(1, 180, thirty + "on his;");
        claimsFaulty(1, 300, "h his;" + " ".repeat(295));
        due("300 bytes", 0, claims(0, "h his;" + " ".repeat(294)));
        due("no such LINE", -2000, claims(1, "h his;"));
        due("the tape is taken all the same", 0, hay.count(7));
        due("no such LINE", -2000, claims(-1, ""));
    }

    private void wrong() {
        due("ahead of any", -1, hay.wrong());
        parish(FIELD + "hay h 3 3 1;");
        claims(0, "h his;point 0 0 his;h parish;");
        due("the first", 1, hay.wrong());
        claims(0, "h parish;x");
        due("a FAULT leaves it", 1, hay.wrong());
        claims(5, "h parish;");
        due("no such LINE leaves it", 1, hay.wrong());
        parish("");
        due("a new PARISH leaves it", 1, hay.wrong());
        parish(FIELD + "hay h 3 3 1;");
        claims(0, "h parish;");
        due("row 0", 0, hay.wrong());
        claims(0, "h his;");
        due("none", -1, hay.wrong());
    }

    private void loads() {
        parish(FIELD + "hay h 3 3 10;hay k 12 3 20;hay l 2 2 30;");
        due("HIS", 40, hay.loads(0, 1));
        due("the parish's", 20, hay.loads(0, 0));
        due("no such", -1, hay.loads(0, 2));
        due("no such", -1, hay.loads(0, -1));
        due("no such", -1, hay.loads(1, 0));
        due("no such", -1, hay.loads(-1, 0));
    }

    private void heir() {
        parish("line a 1 1 3 1 3 3 1 3;line b 2 2 4 2 4 4 2 4;line c 0 0 20 0 20 20 0 20;heirs 9 8 7 6;");
        due("neither", 9, hay.heir(0, 0));
        due("LINE 0 alone", 8, hay.heir(1, 1));
        due("LINE 1 alone", 7, hay.heir(3, 3));
        due("both", 6, hay.heir(2, 2));
        parish("line a 1 1 3 1 3 3 1 3;");
        due("without LINE 1", 1, hay.heir(2, 2));
        int[][] none = {{20, 0}, {-1, 0}, {0, 20}, {0, -1}};
        for (int[] n : none) {
            due("no such", -1, hay.heir(n[0], n[1]));
        }
    }

    private void estate() {
        parish("line a 1 1 3 1 3 3 1 3;line b 2 2 4 2 4 4 2 4;heirs 5 5 0 9;");
        due("two parts", 396, hay.estate(5));
        due("LINE 1 alone", 3, hay.estate(0));
        due("both", 1, hay.estate(9));
        due("nothing", 0, hay.estate(1));
        due("no such", -1, hay.estate(10));
        due("no such", -1, hay.estate(-1));
    }

    private void pieces() {
        parish(BOW);
        due("a bow whose EDGES are the parish's", 3, hay.pieces(0));
        parish(BOW + "line q 0 0 20 0 20 20 0 20;line r 5 0 6 0 6 20 5 20;law left;edge his;");
        due("a bow", 5, hay.pieces(0));
        due("all HIS", 1, hay.pieces(1));
        due("a strip", 3, hay.pieces(2));
        due("no such", -1, hay.pieces(3));
        due("no such", -1, hay.pieces(-1));
    }

    private void piece() {
        parish("line r 5 0 6 0 6 20 5 20;");
        int[][] due = {{100, 0, 0, 0, 1}, {20, 1, 5, 0, 2}, {280, 0, 6, 0, 1}};
        for (int p = 0; p < 3; p++) {
            for (int what = 0; what < 5; what++) {
                due("piece " + p + " " + what, due[p][what], hay.piece(0, p, what));
            }
        }
        parish("line r 5 3 9 3 9 7 5 7;");
        due("Y of the first SQUARE", 3, hay.piece(0, 1, 3));
        due("beside once, by many sides", 1, hay.piece(0, 1, 4));
        int[][] none = {{1, 0, 0}, {-1, 0, 0}, {0, 2, 0}, {0, -1, 0}, {0, 0, 5}, {0, 0, -1}};
        for (int[] n : none) {
            due("no such", -1, hay.piece(n[0], n[1], n[2]));
        }
    }

    private void pieceAt() {
        parish("line r 5 0 6 0 6 20 5 20;");
        due("west", 0, hay.pieceAt(0, 4, 19));
        due("strip", 1, hay.pieceAt(0, 5, 10));
        due("east", 2, hay.pieceAt(0, 19, 19));
        parish(BOW + "law left;edge his;");
        due("corners do not join", 4, hay.pieceAt(0, 3, 3));
        int[][] none = {{1, 0, 0}, {-1, 0, 0}, {0, 20, 0}, {0, -1, 0}, {0, 0, 20}, {0, 0, -1}};
        for (int[] n : none) {
            due("no such", -1, hay.pieceAt(n[0], n[1], n[2]));
        }
    }

    private void crosses() {
        parish("line p 0 0 20 20 0 20;" + "line q 5 5 9 5 9 9 5 9 5 5 9 5 9 9 5 9;");
        due("the eastern middle counts", 1, hay.crosses(0, 4, 5, 1));
        due("the western one does not", 0, hay.crosses(0, 5, 5, 1));
        due("west, over the western middle", 0, hay.crosses(0, 6, 5, 3));
        due("west, over the eastern middle", 1, hay.crosses(0, 5, 5, 3));
        due("the southern middle counts", 1, hay.crosses(0, 5, 4, 2));
        due("the northern one does not", 0, hay.crosses(0, 5, 5, 2));
        due("north", 1, hay.crosses(0, 5, 5, 0));
        due("north", 0, hay.crosses(0, 5, 6, 0));
        due("two EDGES on one another", 2, hay.crosses(1, 4, 6, 1));
        due("none", 0, hay.crosses(1, 5, 6, 1));
        int[][] none = {{0, 0, 0, 0}, {0, 19, 0, 1}, {0, 0, 19, 2}, {0, 0, 0, 3}, {0, 5, 5, 4}, {0, 5, 5, -1},
            {2, 5, 5, 1}, {-1, 5, 5, 1}, {0, 20, 0, 3}, {0, -1, 0, 1}, {0, 0, 20, 0}, {0, 0, -1, 2}};
        for (int[] n : none) {
            due("no such", -1, hay.crosses(n[0], n[1], n[2], n[3]));
        }
    }

    private void walks() {
        parish(FIELD + "hay h 4 4 1;");
        due("stays", 0, walk(0, 0, ""));
        due("out", 1, walk(0, 0, "e 15;"));
        due("out and in", 2, walk(0, 0, "n 4; s\n4 ;"));
        due("within", 0, walk(0, 0, "e 3;s 3;w 5;n 5;"));
        due("to the first SQUARE", 1, walk(0, 0, "n 4;w 4;"));
        due("to the last one", 1, walk(0, 0, "s 15;e 15;"));
        walkFaulty(5, 0, "n 5;");
        walkFaulty(5, 4, "n 4;n 1;");
        walkFaulty(5, 0, "n 20");
        walkFaulty(5, 0, "e 16 x");
        walkFaulty(5, 1, " w 5;");
        walkFaulty(5, 0, "s 16;");
        walkFaulty(2, 2, "n 0;");
        walkFaulty(2, 2, "n 21;");
        walkFaulty(1, 2, "n 100;");
        walkFaulty(1, 0, "n1;");
        walkFaulty(1, 0, "x 1;");
        walkFaulty(1, 0, "h 1;");
        walkFaulty(1, 2, "n n;");
        walkFaulty(1, 3, "n 1");
        walkFaulty(1, 3, "n 1.;");
        String there = "n 1;s 1;".repeat(37);
        due("300 bytes", 0, walk(0, 0, there + "n 1;"));
        walkFaulty(1, 300, there + "n 1; ");
        walkFaulty(1, 300, there + "n   1;");
        walkFaulty(5, 296, there + "n  20;");
        due("no such LINE", -2000, walk(1, 0, "n 1;"));
        due("the tape is taken all the same", 0, hay.count(7));
        due("no such HAY", -2000, walk(0, 1, ""));
        due("no such HAY", -2000, walk(0, -1, ""));
        due("no such LINE", -2000, walk(-1, 0, ""));
    }

    private void walked() {
        due("ahead of any", -1, hay.walked(0));
        parish(FIELD + "hay h 4 6 1;");
        walk(0, 0, "e 3;n 5;");
        int[] there = {7, 1, 8};
        for (int what = 0; what < 3; what++) {
            due("walked " + what, there[what], hay.walked(what));
        }
        walk(0, 0, "e 3;n 50;");
        due("a FAULT leaves it", 8, hay.walked(2));
        walk(2, 0, "");
        due("no such LINE leaves it", 8, hay.walked(2));
        due("another what", -1, hay.walked(3));
        due("another what", -1, hay.walked(-1));
        walk(0, 0, "");
        due("from the HAY", 4, hay.walked(0));
        due("no STEPS", 0, hay.walked(2));
    }

    private void least() {
        parish("line p 5 0 6 0 6 19 5 19;hay h 0 0 1;hay k 10 3 1;church 10 3;");
        due("round the end", 0, hay.least(0, 0, 0));
        due("which is far", 45, hay.least(0, 0, 1));
        due("there", 0, hay.least(0, 1, 0));
        due("there", 0, hay.least(0, 1, 1));
        parish("line p 5 0 6 0 6 20 5 20;hay h 0 0 1;church 10 3;");
        due("through", 2, hay.least(0, 0, 0));
        due("straight", 13, hay.least(0, 0, 1));
        int[][] none = {{1, 0, 0}, {-1, 0, 0}, {0, 1, 0}, {0, -1, 0}, {0, 0, 2}, {0, 0, -1}};
        for (int[] n : none) {
            due("no such", -1, hay.least(n[0], n[1], n[2]));
        }
    }

    private void stiles() {
        String strips = "line p 2 0 4 0 4 20 6 20 6 0 8 0 8 20 2 20;";
        parish(strips + "church 3 3;");
        due("no HAYS", 0, hay.stiles(0));
        parish(strips + "hay a 0 0 1;hay b 3 9 1;hay c 5 5 1;hay d 7 7 1;hay f 12 7 1;hay g 12 8 1;church 3 3;");
        due("a row of PIECES", 4, hay.stiles(0));
        parish("line p 0 2 18 2 18 4 2 4 2 6 18 6 18 20 0 20;hay a 19 0 1;hay b 10 5 1;hay c 19 19 1;church 10 10;");
        due("the ground round about is one PIECE", 1, hay.stiles(0));
        parish("line p 2 2 2 4 4 4 4 2 10 2 10 4 12 4 12 2 18 2 18 4 20 4 20 2;"
            + "hay a 11 3 1;hay b 19 3 1;church 3 3;");
        due("a fork where no HAY is", 3, hay.stiles(0));
        StringBuilder hays = new StringBuilder(FIELD);
        for (char c : "abcdfg".toCharArray()) {
            hays.append("hay ").append(c).append(" 3 3 1;");
        }
        parish(hays.toString());
        due("6 HAYS", 1, hay.stiles(0));
        due("no such", -1, hay.stiles(1));
        due("no such", -1, hay.stiles(-1));
        parish(hays + "hay h 3 3 1;");
        due("7 HAYS", -1, hay.stiles(0));
    }

    private void move() {
        parish(FIELD);
        int[][] not = {{1, 0, 0, 0}, {-1, 0, 0, 0}, {0, 4, 0, 0}, {0, -1, 0, 0}, {0, 0, 21, 0}, {0, 0, -1, 0},
            {0, 0, 0, 21}, {0, 0, 0, -1}, {0, 0, 2, 2}, {0, 0, 8, 2}, {0, 0, 2, 8}, {0, 3, 2, 2}};
        for (int[] n : not) {
            due("not done", false, hay.move(n[0], n[1], n[2], n[3]));
        }
        due("nothing was MOVED", 0, hay.count(6));
        due("to a corner that is no neighbour", true, hay.move(0, 0, 8, 8));
        due("to the rim", true, hay.move(0, 0, 20, 0));
        due("X", 20, hay.corner(0, 0, 0));
        due("Y", 0, hay.corner(0, 0, 1));
        due("MOVED", 2, hay.count(6));
    }

    private void shift() {
        parish(FIELD + "line q 0 0 20 0 20 20;");
        due("to the west", true, hay.shift(0, -2, 12));
        due("X", 0, hay.corner(0, 0, 0));
        due("Y", 20, hay.corner(0, 2, 1));
        due("MOVED", 4, hay.count(6));
        int[][] not = {{0, 0, 0}, {0, -1, 0}, {0, 0, 1}, {1, 1, 0}, {1, 0, -1}, {2, 1, 1}, {-1, 1, 1},
            {0, Integer.MAX_VALUE, 0}, {0, 0, Integer.MIN_VALUE}, {0, Integer.MIN_VALUE, Integer.MIN_VALUE}};
        for (int[] n : not) {
            due("not done", false, hay.shift(n[0], n[1], n[2]));
        }
        due("X stays", 0, hay.corner(0, 0, 0));
        due("MOVED", 4, hay.count(6));
        parish("line p 20 0 20 5 20 9;line q 3 20 5 20 9 20;");
        due("as far as can be", true, hay.shift(0, -20, 0) && hay.shift(0, 20, 0));
        due("as far as can be", true, hay.shift(1, 0, -20) && hay.shift(1, 0, 20));
    }

    private void moved() {
        parish("line p 2 2 8 2 8 8 2 8;");
        due("won nothing", 0, hay.moved(0, 2, 2, 2, 0) + hay.moved(0, 2, 8, 7, 0));
        due("lost more than half", 36 - 15, hay.moved(0, 2, 5, 5, 1));
        due("won", 36, hay.moved(0, 2, 14, 14, 0));
        due("lost none", 0, hay.moved(0, 2, 14, 14, 1));
        due("nothing is changed", 8, hay.corner(0, 2, 0));
        due("nothing is MOVED", 0, hay.count(6));
        int[][] not = {{0, 0, 2, 2, 0}, {0, 0, 8, 2, 0}, {1, 0, 1, 1, 0}, {0, 4, 1, 1, 0}, {0, 0, 21, 0, 0},
            {0, 0, 1, 1, 2}, {0, 0, 1, 1, -1}};
        for (int[] n : not) {
            due("not done", -1, hay.moved(n[0], n[1], n[2], n[3], n[4]));
        }
    }

    private void nights() {
        due("no LINES", -1, hay.nights(1, 1));
        parish("line p 10 10 11 10 10 11;line q 0 0 20 0 20 20 0 20;");
        due("too few", -1, hay.nights(0, 1));
        due("too many", -1, hay.nights(201, 1));
        due("below 0", -1, hay.nights(-1, 1));
        int x = 7;
        int[] draws = new int[3];
        for (int k = 0; k < 3; k++) {
            x = x * 1103515245 + 12345;
            draws[k] = x >>> 8;
        }
        int line = draws[0] % 2;
        int corner = draws[1] % (line == 0 ? 3 : 4);
        int oldX = hay.corner(line, corner, 0);
        int oldY = hay.corner(line, corner, 1);
        int done = hay.nights(1, 7);
        int wayX = new int[] {0, 1, 0, -1}[draws[2] % 4];
        int wayY = new int[] {-1, 0, 1, 0}[draws[2] % 4];
        due("MOVED", done, hay.count(6));
        due("X", oldX + done * wayX, hay.corner(line, corner, 0));
        due("Y", oldY + done * wayY, hay.corner(line, corner, 1));
        int many = hay.nights(200, -5);
        due("MOVED, each time counted", done + many, hay.count(6));
        due("some", true, many > 50 && many <= 200);
    }

    private void undo() {
        due("nothing", -1, hay.undo());
        parish(FIELD);
        hay.move(0, 0, 1, 1);
        hay.shift(0, 1, 1);
        hay.nights(20, 3);
        hay.move(0, 0, 99, 1);
        due("nights", 2, hay.undo());
        due("MOVED", 5, hay.count(6));
        due("shifted", 2, hay.corner(0, 0, 0));
        due("shift", 1, hay.undo());
        due("moved", 1, hay.corner(0, 0, 0));
        due("move", 0, hay.undo());
        due("as told", 2, hay.corner(0, 0, 0));
        due("MOVED", 0, hay.count(6));
        due("no more", -1, hay.undo());
        for (int k = 0; k < 10; k++) {
            hay.move(0, 0, 0, k);
        }
        for (int k = 7; k >= 0; k--) {
            due("8 are kept", k, hay.undo());
            due("each of them", k + 1, hay.corner(0, 0, 1));
        }
        due("no more", -1, hay.undo());
        due("the oldest acts stay", 1, hay.corner(0, 0, 1));
        due("MOVED", 2, hay.count(6));
        hay.move(0, 0, 5, 5);
        parish("x");
        due("a FAULT leaves it", 0, hay.undo());
        hay.move(0, 0, 5, 5);
        parish(FIELD);
        due("a new PARISH: nothing MOVED", -1, hay.undo());
        due("MOVED", 0, hay.count(6));
    }

    private void byNights() {
        parish(FIELD + "line q 10 10 14 10 14 14 10 14;");
        due("none has to", 0, byNight(0, 1, 5, 5, 1, 0, 0, 0));
        due("the tape is taken", 0, hay.count(7));
        due("one", 1, byNight(0, 1, 9, 9, 0, 8, 8, 0, 7, 7, 0));
        due("one of two sides", 1, byNight(0, 1, 2, 5, 1));
        due("two", 2, byNight(0, 1, 2, 5, 1, 8, 5, 1));
        due("more than two", -1, byNight(0, 1, 20, 20, 1));
        due("the reach", -1, byNight(0, 2, 2, 0, 1, 8, 0, 1, 5, 5, 0));
        due("of eight", 0, byNight(1, 3, 11, 11, 1, 11, 12, 1, 12, 11, 1, 12, 12, 1, 13, 11, 1, 13, 12, 1, 11, 13, 1,
            10, 10, 0));
        due("no points", -2, byNight(0, 1));
        due("nine", -2, byNight(0, 1, new int[27]));
        due("not three each", -2, byNight(0, 1, 1, 1, 1, 1));
        due("X", -2, byNight(0, 1, 21, 1, 1));
        due("Y", -2, byNight(0, 1, 1, 255, 1));
        due("whose", -2, byNight(0, 1, 1, 1, 2));
        due("no such LINE", -2, byNight(2, 1, 1, 1, 1));
        due("taken all the same", 0, hay.count(7));
        due("no such LINE", -2, byNight(-1, 1, 1, 1, 1));
        due("reach", -2, byNight(0, 0, 1, 1, 1));
        due("reach", -2, byNight(0, 4, 1, 1, 1));
    }

    private void ways() {
        due("ahead of any", -1, hay.ways());
        parish(FIELD);
        byNight(0, 1, 7, 7, 0);
        due("only corner 2 to 7 7", 1, hay.ways());
        byNight(0, 1, 5, 5, 1);
        due("none MOVED is one way", 1, hay.ways());
        byNight(0, 1, 2, 5, 1, 8, 5, 1);
        int two = 36;
        due("a western corner and an eastern one, each to three places", two, hay.ways());
        byNight(0, 1, 20, 20, 1);
        due("more than two corners leave it", two, hay.ways());
        byNight(0, 9, 5, 5, 1);
        due("not as told leaves it", two, hay.ways());
        parish("");
        due("a new PARISH leaves it", two, hay.ways());
    }

    private void way() {
        due("ahead of any", -1, hay.way(0, 0));
        parish(FIELD);
        byNight(0, 1, 7, 7, 0);
        int[] one = {2, 7, 7};
        for (int what = 0; what < 3; what++) {
            due("way 0 " + what, one[what], hay.way(0, what));
            due("no other corner", -1, hay.way(1, what));
        }
        due("another what", -1, hay.way(0, 3));
        due("another what", -1, hay.way(0, -1));
        due("another corner", -1, hay.way(-1, 0));
        byNight(0, 1, 2, 5, 1, 8, 5, 1);
        int[][] two = {{0, 1, 1}, {1, 9, 1}};
        for (int k = 0; k < 2; k++) {
            for (int what = 0; what < 3; what++) {
                due("way " + k + " " + what, two[k][what], hay.way(k, what));
            }
        }
        due("another corner", -1, hay.way(2, 0));
        byNight(0, 1, 20, 20, 1);
        due("more than two corners leave it", 9, hay.way(1, 1));
        byNight(0, 1, 5, 5, 1);
        due("none MOVED", -1, hay.way(0, 0));
    }

    private void rectangles() {
        due("nothing has to be inside", 2, rectangle(0, 0, 0));
        due("one inside", 4, rectangle(5, 5, 1));
        due("the rim is not inside", -1, rectangle(0, 5, 1));
        due("one inside, one out", 4, rectangle(5, 5, 1, 6, 5, 0));
        due("between", -1, rectangle(5, 5, 1, 7, 5, 1, 6, 5, 0));
        due("both", -1, rectangle(5, 5, 1, 5, 5, 0));
        due("far", 36 + 4, rectangle(1, 1, 1, 19, 19, 1));
        due("the tape is taken", 0, hay.count(7));
        due("no points", -2, rectangle());
        due("nine", -2, rectangle(new int[27]));
        due("not three each", -2, rectangle(1, 1));
        due("X", -2, rectangle(21, 1, 1));
        due("whose", -2, rectangle(1, 1, 2));
        due("taken all the same", 0, hay.count(7));
        parish("edge his;law left;");
        due("the rim is inside", 2, rectangle(0, 5, 1));
        due("two at the rim", 40, rectangle(0, 0, 1, 20, 20, 1));
        due("one out", 2, rectangle(0, 0, 0));
    }

    private void side() {
        due("ahead of any", -1, hay.side(0));
        rectangle(5, 5, 1);
        sides(4, 4, 6, 6);
        rectangle(5, 5, 1, 5, 6, 1);
        sides(4, 4, 6, 7);
        parish("edge his;");
        rectangle(5, 5, 1);
        sides(4, 4, 5, 5);
        rectangle(0, 0, 0, 1, 2, 0);
        sides(0, 3, 1, 4);
        rectangle(5, 5, 1, 5, 5, 0);
        sides(0, 3, 1, 4);
        rectangle(77);
        sides(0, 3, 1, 4);
        due("another what", -1, hay.side(4));
        due("another what", -1, hay.side(-1));
    }

    private void sides(int... due) {
        for (int what = 0; what < 4; what++) {
            due("side " + what, due[what], hay.side(what));
        }
    }

    private void pace() {
        due("two", 2, paces("n 1;e 99;"));
        due("fault", 0, hay.fault());
        String thirty = "n 1;".repeat(30);
        due("30", 30, paces(thirty));
        pacesFaulty(4, 120, thirty + "n 1;");
        pacesFaulty(1, 120, thirty + "x 1;");
        pacesFaulty(4, 0, "");
        pacesFaulty(4, 2, "  ");
        pacesFaulty(4, 5, "n 1; ");
        pacesFaulty(1, 3, "n 1");
        pacesFaulty(2, 2, "n 0;");
        pacesFaulty(2, 2, "n 00;");
        pacesFaulty(1, 2, "n 100;");
        pacesFaulty(1, 0, "north 1;");
        pacesFaulty(1, 0, "1");
        pacesFaulty(1, 2, "n ;");
        pacesFaulty(1, 4, "n 1 1;");
        pacesFaulty(1, 300, "n 1;" + " ".repeat(297));
        pacesFaulty(4, 300, "n 1;" + " ".repeat(296));
        due("300 bytes", 2, paces("n 1;n 1;" + " ".repeat(292)));
        due("the tape is taken", 0, hay.count(7));
    }

    private void ends(int... due) {
        for (int what = 0; what < 4; what++) {
            due("paced " + what, due[what], hay.paced(what));
        }
    }

    private void paced() {
        due("ahead of any", -1001, hay.paced(0));
        paces("n 5;e 7;s 5;w 7;");
        ends(0, 0, 0, 0);
        paces("n 5;e 7;s 5;w 9;");
        ends(-2, 0, 1, 2);
        paces("e 99;w 1;w 1;n 1;");
        ends(97, -1, -1, -1);
        paces("e 99;w 1;w 1;");
        ends(97, 0, 1, 97);
        paces("e 99;e 99;w 1;w 1;");
        ends(196, 0, 2, 196);
        paces("e 60;e 60;w 20;");
        ends(100, 0, 2, 100);
        paces("e 99;e 1;w 99;");
        ends(1, 0, 1, 1);
        paces("n 3;s 2;e 1;w 2;");
        ends(-1, -1, 2, 2);
        paces("e 5;e 5;");
        ends(10, 0, -1, -1);
        paces("e 5;x");
        ends(10, 0, -1, -1);
        due("another what", -1001, hay.paced(4));
        due("another what", -1001, hay.paced(-1));
    }

    private void image() {
        due("place 0", true, hay.image(0));
        due("place 1", true, hay.image(1));
        due("no such place", false, hay.image(2));
        due("no such place", false, hay.image(-1));
        parish(FIELD + "hay h 3 3 7;heirs 4 5 6 7;church 2 3;law left;edge his;");
        hay.move(0, 0, 1, 1);
        hay.image(1);
        due("undo goes on", 0, hay.undo());
        parish("line z 0 0 5 5 0 5;");
        hay.restore(1);
        due("what was MOVED", 1, hay.corner(0, 0, 0));
        due("how many", 1, hay.count(6));
        due("LOADS", 7, hay.hay(0, 2));
        due("names", 0, claims(0, "h his;"));
        due("heirs", 4, hay.heir(19, 19));
        due("church", 2, hay.count(2));
        due("law", 2, hay.count(4));
        due("edge", 1, hay.count(5));
        hay.move(0, 0, 0, 0);
        hay.restore(1);
        due("an image stays as it was kept", 1, hay.corner(0, 0, 0));
    }

    private void restore() {
        due("nothing is kept", false, hay.restore(0));
        hay.image(0);
        parish(FIELD + "hay h 3 3 7;");
        hay.move(0, 0, 1, 1);
        claims(0, "h parish;");
        walk(0, 0, "e 1;");
        paces("n 1;x");
        hay.feed(1, 2, 3, 4, 5);
        due("nothing is kept there", false, hay.restore(1));
        due("no such place", false, hay.restore(2));
        due("no such place", false, hay.restore(-1));
        due("not done", 1, hay.count(0));
        due("done", true, hay.restore(0));
        due("empty", 0, hay.count(0));
        due("nothing can be undone", -1, hay.undo());
        due("the tape stays", 20, hay.count(7));
        due("wrong stays", 0, hay.wrong());
        due("walked stays", 4, hay.walked(0));
        due("fault stays", 1, hay.fault());
        due("again", true, hay.restore(0));
    }

    private void count() {
        parish(FIELD + "hay h 3 3 7;hay k 3 3 7;church 5 6;law round;edge his;");
        hay.move(0, 0, 1, 1);
        hay.shift(0, 1, 0);
        hay.feed(0, 0, 0, 0, 0);
        int[] counts = {1, 2, 5, 6, 1, 1, 5, 20};
        for (int what = 0; what < 8; what++) {
            due("count " + what, counts[what], hay.count(what));
        }
        due("another what", -1, hay.count(8));
        due("another what", -1, hay.count(-1));
        hay.undo();
        due("undone ones not", 1, hay.count(6));
        hay.end(0);
        parish(FIELD);
        due("since the PARISH was told", 0, hay.count(6));
        due("without a church", 0, hay.count(2) + hay.count(3));
        due("without a law", 0, hay.count(4));
        due("without an edge", 0, hay.count(5));
    }
}
