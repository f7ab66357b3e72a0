import java.util.Arrays;

/** Each sentence that bounds corners MOVED, acts undone, images and counts; promises 28 to 32, 40 to 42. */
public final class ActBoundariesTest extends Trial {
    private static final String RICH = FIELD + "line q 0 0 20 0 20 20;hay h 3 3 7;hay k 12 3 9;"
        + "church 5 6;law left;edge his;heirs 9 8 7 6;";

    public static void main(String[] args) {
        ActBoundariesTest test = new ActBoundariesTest();
        test.refusals();
        test.move();
        test.neighbours();
        test.shift();
        test.shiftStays();
        test.moved();
        test.wonAndLost();
        test.nights();
        test.nightsByHand();
        test.all512Calls();
        test.undo();
        test.undoEach();
        test.undoKept();
        test.newParish();
        test.image();
        test.restore();
        test.restoreLeaves();
        test.count();
        close("act boundaries");
    }

    private void refusals() {
        about("no such ones (without a LINE)");
        due("move", false, hay.move(0, 0, 0, 0));
        due("shift", false, hay.shift(0, 1, 1));
        due("moved", -1, hay.moved(0, 0, 0, 0, 0));
        due("nights", -1, hay.nights(1, 1));
        due("undo", -1, hay.undo());
        due("restore", false, hay.restore(0));
        due("MOVED", 0, hay.count(6));
        parish("hay h 1 1 1;");
        due("nights without LINES", -1, hay.nights(200, 1));
        due("move without LINES", false, hay.move(0, 0, 5, 5));
    }

    private static int bit(boolean b) {
        return b ? 1 : 0;
    }

    private void move() {
        about("Corner i of a LINE is MOVED to X Y (0 to 20): true; false: no such ones");
        parish("line p 5 5 9 5 9 9;line q 5 5 9 5 9 9;line r 5 5 9 5 9 9;");
        bounds("LINE", 0, 2, 0, n -> bit(hay.move(n, 1, 11, 11)));
        parish("line p 5 5 9 5 9 9;");
        bounds("LINE", 0, 0, 0, n -> bit(hay.move(n, 1, n == 0 ? 12 - hay.corner(0, 1, 0) : 3, 3)));
        bounds("corner", 0, 2, 0, n -> bit(hay.move(0, n, 7, 7 + n)));
        bounds("X", 0, 20, 0, n -> bit(hay.move(0, 0, n, 1)));
        bounds("Y", 0, 20, 0, n -> bit(hay.move(0, 0, 1, n)));
        due("X", 1, hay.corner(0, 0, 0));
        due("Y", 20, hay.corner(0, 0, 1));
        due("refused ones count nothing", 8, hay.count(6));
        due("it is there", false, hay.move(0, 0, 1, 20));
        due("refused ones count nothing", 8, hay.count(6));
        due("to X Y of its own alone", true, hay.move(0, 0, 1, 19) && hay.move(0, 0, 2, 19));
    }

    private void neighbours() {
        about("false: it would be like a neighbour");
        parish("line p 1 1 4 1 4 4 1 4;");
        int[][] at = {{1, 1}, {4, 1}, {4, 4}, {1, 4}};
        for (int i = 0; i < 4; i++) {
            int[] ahead = at[(i + 3) % 4];
            int[] behind = at[(i + 1) % 4];
            int[] across = at[(i + 2) % 4];
            due(i + " like the one ahead", false, hay.move(0, i, ahead[0], ahead[1]));
            due(i + " like the one behind", false, hay.move(0, i, behind[0], behind[1]));
            due(i + " as it is", false, hay.move(0, i, at[i][0], at[i][1]));
            due("nothing MOVED", 0, hay.count(6));
            due(i + " like one that is no neighbour", true, hay.move(0, i, across[0], across[1]));
            due("and back", 0, hay.undo());
            due(i + " beside a neighbour, in X", true, hay.move(0, i, behind[0] + 1, behind[1]));
            hay.undo();
            due(i + " beside a neighbour, in Y", true, hay.move(0, i, ahead[0], ahead[1] + 1));
            hay.undo();
        }
    }

    private void shift() {
        about("All corners of a LINE are MOVED by as much: true; false: no such one, by nothing");
        parish("line p 5 5 9 5 9 9;line q 5 5 9 5 9 9;line r 5 5 9 5 9 9;");
        bounds("LINE", 0, 2, 0, n -> bit(hay.shift(n, 1, 0)));
        due("by nothing", false, hay.shift(0, 0, 0));
        due("in X alone", true, hay.shift(0, 1, 0));
        due("in Y alone", true, hay.shift(0, 0, -1));
        int[][] there = {{7, 4}, {11, 4}, {11, 8}};
        for (int i = 0; i < 3; i++) {
            due("X", there[i][0], hay.corner(0, i, 0));
            due("Y", there[i][1], hay.corner(0, i, 1));
        }
        due("another LINE", 5, hay.corner(1, 0, 0));
        due("all corners count", 12, hay.count(6));
    }

    private void shiftStays() {
        about("(each within 0 to 20 then); false: they would not stay");
        int[][] far = {{6, 7}, {14, 7}, {9, 3}, {9, 16}};
        for (int first = 0; first < 4; first++) {
            StringBuilder text = new StringBuilder("line p");
            for (int k = 0; k < 4; k++) {
                text.append(' ').append(far[(first + k) % 4][0]).append(' ').append(far[(first + k) % 4][1]);
            }
            due("PARISH", 1, parish(text.append(';').toString()));
            bounds("DX", -6, 6, 0, n -> bit(hay.shift(0, n, 0) && (hay.undo() == 0)));
            bounds("DY", -3, 4, 0, n -> bit(hay.shift(0, 0, n) && (hay.undo() == 0)));
            bounds("DX with DY", -6, 6, 0, n -> bit(hay.shift(0, n, 4) && (hay.undo() == 0)));
            bounds("DY with DX", -3, 4, 0, n -> bit(hay.shift(0, -6, n) && (hay.undo() == 0)));
            due("nothing MOVED", 0, hay.count(6));
        }
        parish("line p 20 0 20 5 20 9;line q 0 20 5 20 9 20;");
        due("by 20", true, hay.shift(0, -20, 0) && hay.shift(0, 20, 11));
        due("by 20", true, hay.shift(1, 11, -20) && hay.shift(1, -11, 20));
        int[] no = {21, -21, Integer.MAX_VALUE, Integer.MIN_VALUE};
        for (int n : no) {
            due("DX " + n, false, hay.shift(0, n, 0));
            due("DY " + n, false, hay.shift(0, 0, n));
            due("both " + n, false, hay.shift(0, n, n));
        }
        due("MOVED", 12, hay.count(6));
        due("as told", 20, hay.corner(1, 0, 1));
    }

    private void moved() {
        about("NONE: it would not be done, another what");
        parish("line p 5 5 9 5 9 9;line q 5 5 9 5 9 9;line r 5 5 9 5 9 9;");
        bounds("LINE", 0, 2, -1, n -> hay.moved(n, 1, 11, 11, 0));
        bounds("corner", 0, 2, -1, n -> hay.moved(0, n, 7, 7, 1));
        bounds("X", 0, 20, -1, n -> hay.moved(0, 0, n, 1, 0));
        bounds("Y", 0, 20, -1, n -> hay.moved(0, 0, 1, n, 1));
        bounds("what", 0, 1, -1, n -> hay.moved(0, 0, 1, 1, n));
        due("it is there", -1, hay.moved(0, 0, 5, 5, 0));
        due("like the one behind", -1, hay.moved(0, 0, 9, 5, 0));
        due("like the one ahead", -1, hay.moved(0, 0, 9, 9, 1));
        about("Nothing is changed");
        parish(RICH);
        due("LOST", true, hay.moved(0, 0, 7, 7, 1) > 0);
        due("MOVED", 0, hay.count(6));
        due("corner", 2, hay.corner(0, 0, 0));
        due("nothing to undo", -1, hay.undo());
        due("the other LINE", 190 + 20, hay.acres(1));
    }

    private void wonAndLost() {
        about("WON: SQUARES that are HIS then and were not, LOST: the others that change");
        parish("line p 0 0 1 0 1 1 0 1;line q 19 19 20 19 20 20 19 20;");
        due("the first SQUARE is LOST", 1, hay.moved(0, 0, 1, 1, 1));
        due("none WON", 0, hay.moved(0, 0, 1, 1, 0));
        due("the last SQUARE is LOST", 1, hay.moved(1, 2, 19, 19, 1));
        due("none WON", 0, hay.moved(1, 2, 19, 19, 0));
        hay.move(0, 0, 1, 1);
        due("flat", 0, hay.acres(0));
        due("the first SQUARE is WON", 1, hay.moved(0, 0, 0, 0, 0));
        due("none LOST", 0, hay.moved(0, 0, 0, 0, 1));
        hay.move(1, 2, 19, 19);
        due("the last SQUARE is WON", 1, hay.moved(1, 2, 20, 20, 0));
        parish("line p 0 0 20 0 20 20 0 20;");
        due("half, with the middles", 210, hay.moved(0, 2, 10, 10, 1));
        parish("line p 0 0 20 0 20 20 0 20;edge his;");
        due("half, without them", 190, hay.moved(0, 2, 10, 10, 1));
        String[] laws = {"odd", "round", "left"};
        int[] won = {45, 45, 0};
        for (int law = 0; law < 3; law++) {
            parish("line p 0 0 10 0 10 10 0 10;law " + laws[law] + ";");
            due("LOST by " + laws[law], 100, hay.moved(0, 0, 20, 10, 1));
            due("WON by " + laws[law], won[law], hay.moved(0, 0, 20, 10, 0));
        }
        for (int line = 0; line < 2; line++) {
            parish("line p 2 2 9 3 8 9 1 7;line q 12 2 12 9 16 5;");
            int before = hay.acres(line);
            int more = hay.moved(line, 1, 15, 12, 0) - hay.moved(line, 1, 15, 12, 1);
            hay.move(line, 1, 15, 12);
            due("what is WON less what is LOST", hay.acres(line) - before, more);
        }
    }

    private void nights() {
        about("NIGHTS (1 to 200): NONE: not as told");
        parish(RICH);
        bounds("n", 1, 200, -1, n -> hay.nights(n, 1));
        int before = hay.count(6);
        hay.nights(0, 1);
        hay.nights(201, 1);
        hay.nights(-1, 1);
        due("nothing is MOVED by these", before, hay.count(6));
        due("nor can they be undone", 1, hay.undo());
    }

    /** Of each LINE the corners, of each corner X and Y. */
    private int[][][] corners() {
        int[][][] all = new int[hay.count(0)][][];
        for (int line = 0; line < all.length; line++) {
            all[line] = new int[hay.line(line, 0)][];
            for (int i = 0; i < all[line].length; i++) {
                all[line][i] = new int[] {hay.corner(line, i, 0), hay.corner(line, i, 1)};
            }
        }
        return all;
    }

    private static boolean mayCome(int[][] corners, int i, int[] to) {
        int[] ahead = corners[(i + corners.length - 1) % corners.length];
        int[] behind = corners[(i + 1) % corners.length];
        return Math.min(to[0], to[1]) >= 0 && Math.max(to[0], to[1]) <= 20 && !Arrays.equals(to, ahead)
            && !Arrays.equals(to, behind);
    }

    /** Each night again, by draws that are made here. */
    private void nightsByHand(String text, int n, int seed) {
        parish(text);
        int[][][] all = corners();
        int[] dx = {0, 1, 0, -1};
        int[] dy = {-1, 0, 1, 0};
        int x = seed;
        int done = 0;
        for (int night = 0; night < n; night++) {
            x = x * 1103515245 + 12345;
            int[][] line = all[(x >>> 8) % all.length];
            x = x * 1103515245 + 12345;
            int i = (x >>> 8) % line.length;
            x = x * 1103515245 + 12345;
            int way = (x >>> 8) % 4;
            int[] to = {line[i][0] + dx[way], line[i][1] + dy[way]};
            if (mayCome(line, i, to)) {
                line[i] = to;
                done++;
            }
        }
        due("nights " + n + " " + seed, done, hay.nights(n, seed));
        due("MOVED", done, hay.count(6));
        due("corners", true, Arrays.deepEquals(all, corners()));
        due("one act", 0, hay.undo());
        due("undone", 0, hay.count(6));
    }

    private void nightsByHand() {
        about("each night draws of all LINES, of that LINE's corners, of 4 (n, e, s, w)");
        String[] texts = {FIELD, "line p 5 5 6 5 5 6;", "line p 0 0 20 0 20 20 0 20;",
            "line p 9 9 10 9 10 10;line q 0 0 1 0 0 1;line r 20 20 19 20 20 19 18 20 17 20;"};
        int[] seeds = {0, 1, -1, 7, 12345, Integer.MAX_VALUE, Integer.MIN_VALUE, 99999999};
        for (String text : texts) {
            for (int seed : seeds) {
                renew();
                nightsByHand(text, 1, seed);
                nightsByHand(text, 2, seed);
                renew();
                nightsByHand(text, 60, seed);
                renew();
                nightsByHand(text, 200, seed);
            }
        }
        about("if it stays within 0 to 20 and unlike its neighbours");
        int stood = 0;
        for (int seed = 0; seed < 40; seed++) {
            renew();
            parish("line p 0 0 20 0 20 20 0 20;");
            int first = hay.nights(1, seed);
            stood += 1 - first;
            due("0 or 1", true, first == 0 || first == 1);
            due("as many as it says", first, hay.count(6));
            due("a night that MOVED nothing was done, too", 0, hay.undo());
        }
        due("some would have left 0 to 20", true, stood > 5 && stood < 35);
    }

    private void all512Calls() {
        about("An object is used for at most 512 calls after it has been made");
        Tell.text(hay, "line p 5 5 9 5 9 9;");
        hay.parish();
        for (int call = 5; call < 503; call++) {
            due("call " + call, true, hay.move(0, 0, call % 2, call % 19));
        }
        due("MOVED", 498, hay.count(6));
        for (int k = 7; k >= 0; k--) {
            due("undo", k, hay.undo());
        }
        due("the 512th call", 490, hay.count(6));
    }

    private void undo() {
        about("how many more can be (8 at most are kept); NONE: none is");
        due("ahead of any", -1, hay.undo());
        parish("line p 5 5 9 5 9 9;");
        due("nothing was done", -1, hay.undo());
        for (int acts = 1; acts <= 12; acts++) {
            parish("line p 5 5 9 5 9 9;");
            for (int k = 1; k <= acts; k++) {
                due("move", true, hay.move(0, 0, k, 0));
            }
            int kept = Math.min(acts, 8);
            for (int k = kept - 1; k >= 0; k--) {
                due("after " + acts, k, hay.undo());
                int x = acts - kept + k;
                due("as it was", x == 0 ? 5 : x, hay.corner(0, 0, 0));
                due("undone ones do not count", x, hay.count(6));
            }
            due("no more", -1, hay.undo());
            due("no more", -1, hay.undo());
            due("those stay", acts - kept, hay.count(6));
            renew();
        }
        about("the latest is undone, then the one ahead of it");
        parish("line p 5 5 9 5 9 9;line q 1 1 2 1 2 2;");
        for (int k = 0; k < 9; k++) {
            hay.move(0, 0, k, 0);
        }
        due("7 more", 7, hay.undo());
        hay.move(1, 0, 0, 9);
        due("again 7 more", 7, hay.undo());
        due("the other LINE", 1, hay.corner(1, 0, 0));
        due("this one", 7, hay.corner(0, 0, 0));
    }

    private void undoEach() {
        about("The latest of move(), shift(), nights() that was done");
        parish(FIELD + "line q 1 1 2 1 2 2;");
        hay.move(0, 3, 0, 9);
        hay.shift(1, 3, 4);
        int many = hay.nights(30, 9);
        due("MOVED", 4 + many, hay.count(6));
        due("not done", false, hay.move(0, 3, 99, 9) || hay.shift(1, 0, 0) || hay.nights(0, 1) >= 0);
        due("not done", true, hay.moved(0, 0, 1, 1, 0) >= 0);
        due("nights", 2, hay.undo());
        due("MOVED", 4, hay.count(6));
        due("shift", 1, hay.undo());
        due("MOVED", 1, hay.count(6));
        due("X", 1, hay.corner(1, 0, 0));
        due("Y", 1, hay.corner(1, 0, 1));
        due("move", 0, hay.undo());
        due("MOVED", 0, hay.count(6));
        due("X", 2, hay.corner(0, 3, 0));
        due("Y", 8, hay.corner(0, 3, 1));
        due("none", -1, hay.undo());
        hay.shift(0, 1, 1);
        due("acts come again", 0, hay.undo());
    }

    private void undoKept() {
        about("undo leaves all but what was MOVED");
        parish(RICH);
        hay.move(0, 0, 1, 1);
        claims(0, "h parish;");
        walk(0, 0, "e 1;");
        paces("n 1;n 2;");
        byNight(0, 1, 20, 20, 0);
        rectangle(5, 5, 1);
        hay.image(0);
        hay.feed(1, 2, 3, 4, 5);
        due("undo", 0, hay.undo());
        due("tape", 20, hay.count(7));
        due("wrong", 0, hay.wrong());
        due("walked", 4, hay.walked(0));
        due("paced", -3, hay.paced(1));
        due("side", 4, hay.side(0));
        due("image", true, hay.restore(0));
        due("as it was kept", 1, hay.corner(0, 0, 0));
    }

    private void newParish() {
        about("A new PARISH: nothing MOVED");
        parish(FIELD);
        hay.move(0, 0, 1, 1);
        hay.shift(0, 1, 1);
        hay.nights(200, 3);
        parish(FIELD);
        due("MOVED", 0, hay.count(6));
        due("undo", -1, hay.undo());
        due("corner", 2, hay.corner(0, 0, 0));
        hay.move(0, 0, 1, 1);
        parish("");
        due("an empty one, too: MOVED", 0, hay.count(6));
        due("an empty one, too: undo", -1, hay.undo());
        parish(FIELD);
        parish(FIELD);
        hay.move(0, 0, 1, 1);
        due("FAULT", true, parish("x") < 0);
        due("a FAULT leaves what was MOVED", 1, hay.count(6));
        due("and what can be undone", 0, hay.undo());
    }

    private void image() {
        about("kept in place k (0, 1): true; false: no such one");
        bounds("image", 0, 1, 0, n -> bit(hay.image(n)));
        bounds("restore", 0, 1, 0, n -> bit(hay.restore(n)));
        about("PARISH and what was MOVED are kept in place k");
        parish(RICH);
        hay.move(0, 0, 1, 1);
        hay.image(0);
        due("undo is as it was", 0, hay.undo());
        hay.shift(1, 0, 0);
        hay.image(1);
        parish("");
        parish("");
        hay.restore(0);
        due("place 0", 1, hay.corner(0, 0, 0));
        due("MOVED", 1, hay.count(6));
        hay.restore(1);
        due("place 1", 2, hay.corner(0, 0, 0));
        due("MOVED", 0, hay.count(6));
        hay.move(0, 0, 0, 3);
        hay.image(0);
        hay.restore(1);
        hay.restore(0);
        due("kept anew", 3, hay.corner(0, 0, 1));
        due("no such place keeps nothing", false, hay.image(2) || hay.image(-1));
    }

    private void restore() {
        about("They are as kept in place k: true; false: no such one, or nothing is kept there");
        due("nothing is kept", false, hay.restore(0) || hay.restore(1));
        hay.image(1);
        due("nothing is kept in place 0", false, hay.restore(0));
        due("an empty PARISH is kept in place 1", true, hay.restore(1));
        parish(RICH);
        hay.move(0, 2, 9, 9);
        hay.image(0);
        parish("line z 7 7 9 7 9 9;hay g 1 1 1;church 1 1;law round;heirs 1 1 1 1;");
        hay.move(0, 0, 0, 0);
        due("not done", false, hay.restore(2) || hay.restore(-1));
        due("not done: the PARISH stays", 0, hay.corner(0, 0, 0));
        due("not done: it can be undone", 0, hay.undo());
        due("done", true, hay.restore(0));
        int[] counts = {2, 2, 5, 6, 2, 1, 1, 0};
        for (int what = 0; what < 8; what++) {
            due("count " + what, counts[what], hay.count(what));
        }
        due("corners", 4, hay.line(0, 0));
        due("corner", 9, hay.corner(0, 2, 1));
        due("corners", 3, hay.line(1, 0));
        due("corner", 20, hay.corner(1, 2, 0));
        int[][] hays = {{3, 3, 7}, {12, 3, 9}};
        for (int h = 0; h < 2; h++) {
            for (int what = 0; what < 3; what++) {
                due("hay", hays[h][what], hay.hay(h, what));
            }
        }
        due("heirs: neither", 9, hay.heir(0, 19));
        due("heirs: LINE 0 alone", 8, hay.heir(3, 6));
        due("heirs: LINE 1 alone", 7, hay.heir(19, 0));
        due("heirs: both", 6, hay.heir(6, 3));
        due("names of HAYS", 0, claims(0, "h his;k parish;"));
        claims(0, "g his;");
        due("no other NAMES", 3, hay.fault());
        claims(0, "z his;");
        due("no other NAMES", 3, hay.fault());
    }

    private void restoreLeaves() {
        about("(the tape, and what other calls told last, stays; nothing can be undone)");
        hay.image(1);
        parish(RICH);
        hay.image(0);
        claims(0, "h his;h parish;");
        walk(0, 1, "e 1;");
        byNight(0, 3, 10, 10, 1, 11, 11, 0);
        int ways = hay.ways();
        int way = hay.way(0, 1);
        rectangle(5, 5, 1);
        paces("n 1;n 2;");
        hay.move(0, 0, 1, 1);
        claims(0, "x y;");
        hay.feed(1, 2, 3, 4, 5);
        for (int k = 1; k >= 0; k--) {
            due("restore", true, hay.restore(k));
            due("nothing can be undone", -1, hay.undo());
            due("tape", 20, hay.count(7));
            due("fault", 3, hay.fault());
            due("wrong", 1, hay.wrong());
            due("walked", 13, hay.walked(0));
            due("ways", ways, hay.ways());
            due("way", way, hay.way(0, 1));
            due("side", 4, hay.side(0));
            due("paced", -3, hay.paced(1));
        }
        due("acts come again", true, hay.move(0, 0, 1, 1));
        due("and can be undone", 0, hay.undo());
        hay.move(0, 0, 1, 1);
        due("nothing to restore", true, hay.restore(0));
        due("what was kept is not changed by acts", 2, hay.corner(0, 0, 0));
        hay.nights(50, 5);
        due("again", true, hay.restore(0));
        due("what was kept is not changed by acts", 2, hay.corner(0, 0, 0));
        due("MOVED", 0, hay.count(6));
    }

    private void count() {
        about("NONE for another what");
        int[] others = {-1, 8, 9, 100, Integer.MIN_VALUE, Integer.MAX_VALUE};
        for (int what : others) {
            due("count " + what, -1, hay.count(what));
        }
        about("0 LINES, 1 HAYS, 2 the church's X, 3 its Y, 4 law, 5 'edge', 6 corners MOVED, 7 bytes of the tape");
        parish(RICH);
        hay.shift(0, 1, 1);
        hay.feed(0, 0, 0, 0, 0);
        hay.end(17);
        int[] counts = {2, 2, 5, 6, 2, 1, 4, 17};
        for (int what = 0; what < 8; what++) {
            due("count " + what, counts[what], hay.count(what));
        }
        about("6 corners MOVED since the PARISH was told (undone ones not)");
        parish(FIELD + "line q 0 0 20 0 20 20;");
        hay.move(0, 0, 1, 1);
        due("one", 1, hay.count(6));
        hay.move(0, 0, 2, 2);
        due("each time counts, to and fro", 2, hay.count(6));
        hay.shift(0, 1, 0);
        due("four more", 6, hay.count(6));
        int many = hay.nights(100, 4);
        due("as many as nights() told", 6 + many, hay.count(6));
        hay.undo();
        due("undone ones not", 6, hay.count(6));
        hay.undo();
        due("undone ones not", 2, hay.count(6));
        hay.image(0);
        hay.undo();
        hay.undo();
        due("none", 0, hay.count(6));
        hay.restore(0);
        due("as it was kept", 2, hay.count(6));
    }
}
