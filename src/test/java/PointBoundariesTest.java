/** Each sentence that bounds told points, BY NIGHT, RECTANGLES and how PACES are MENDED; promises 15, 16, 33 to 39. */
public final class PointBoundariesTest extends Trial {
    public static void main(String[] args) {
        PointBoundariesTest test = new PointBoundariesTest();
        test.pointsAsTold();
        test.aheadOfAny();
        test.reach();
        test.rim();
        test.neighbours();
        test.twoCorners();
        test.order();
        test.lawsByNight();
        test.moreThanTwo();
        test.theLatestByNight();
        test.eightPoints();
        test.rectangles();
        test.rectanglesAtTheRim();
        test.rectanglesInOrder();
        test.theLatestRectangle();
        test.pacesEnd();
        test.mended();
        test.cannotBeMended();
        test.theLatestPaces();
        test.theLatestClaims();
        close("point boundaries");
    }

    private void night(int corners, int ways, int... first) {
        due("ways", ways, hay.ways());
        for (int k = 0; k < 2; k++) {
            for (int what = 0; what < 3; what++) {
                due("way " + k + " " + what, k < corners ? first[3 * k + what] : -1, hay.way(k, what));
            }
        }
        int[] beyond = {-1, 3, Integer.MIN_VALUE, Integer.MAX_VALUE};
        for (int n : beyond) {
            due("way, what " + n, -1, hay.way(0, n));
            due("way, k " + n, -1, hay.way(n, 0));
        }
        due("way, k 2", -1, hay.way(2, 0));
    }

    private void pointsAsTold() {
        about("the tape's points (three bytes each, X, Y, 1: HIS, 0: not; 1 to 8); -2: not as told");
        parish(FIELD + "line q 1 1 4 1 4 4;line r 1 1 4 1 4 4;");
        for (int many = 0; many <= 28; many++) {
            boolean asTold = many > 0 && many <= 24 && many % 3 == 0;
            due(many + " bytes by night", asTold ? 0 : -2, byNight(0, 1, new int[many]));
            due(many + " bytes for a RECTANGLE", asTold ? 2 : -2, rectangle(new int[many]));
        }
        due("a full tape", -2, byNight(0, 1, new int[940]));
        due("a full tape", -2, rectangle(new int[939]));
        renew();
        parish(FIELD + "line q 1 1 4 1 4 4;line r 1 1 4 1 4 4;");
        for (int place = 0; place < 8; place++) {
            for (int of = 0; of < 3; of++) {
                int[] bytes = new int[24];
                int most = of == 2 ? 1 : 20;
                bytes[3 * place + of] = most;
                due("most, byte " + of, false, byNight(0, 1, bytes) == -2);
                bytes[3 * place + of] = most + 1;
                due("too much, byte " + of, -2, byNight(0, 1, bytes));
                due("too much, byte " + of, -2, rectangle(bytes));
                bytes[3 * place + of] = 255;
                due("255, byte " + of, -2, byNight(0, 1, bytes));
            }
        }
        about("by reach r (1 to 3); -2: not as told");
        parish(FIELD + "line q 1 1 4 1 4 4;line r 1 1 4 1 4 4;");
        bounds("reach", 1, 3, -2, r -> byNight(0, r, 5, 5, 1));
        bounds("LINE", 0, 2, -2, line -> byNight(line, 1, 20, 20, 0));
        parish("");
        due("no LINES", -2, byNight(0, 1, 5, 5, 1));
    }

    private void aheadOfAny() {
        about("NONE ahead of any");
        due("ways", -1, hay.ways());
        due("way", -1, hay.way(0, 0));
        due("way", -1, hay.way(1, 2));
        parish(FIELD);
        byNight(0, 4, 5, 5, 1);
        byNight(0, 1, 20, 20, 1);
        due("ahead of any that was 0 or more", -1, hay.ways());
        due("ahead of any that was 0 or more", -1, hay.way(0, 0));
        for (int what = 0; what < 4; what++) {
            due("side", -1, hay.side(what));
        }
        rectangle(1);
        rectangle(5, 5, 1, 5, 5, 0);
        due("ahead of any that was above 0", -1, hay.side(0));
        for (int what = 0; what < 4; what++) {
            due("paced", -1001, hay.paced(what));
        }
        paces("n 1;");
        due("ahead of any without a FAULT", -1001, hay.paced(0));
    }

    private void reach() {
        about("each by no more than r in X and in Y, by at least 1 in one");
        parish(FIELD);
        due("r 3: 8 8 to 11 11 alone", 1, byNight(0, 3, 10, 10, 1));
        night(1, 1, 2, 11, 11);
        due("r 2 is too little", false, byNight(0, 2, 10, 10, 1) == 1);
        due("r 3: 2 2 to -1 -1 is too far, to 0 0 is enough", 1, byNight(0, 3, 1, 1, 1));
        night(1, 1, 0, 0, 0);
        due("r 1: to 9 9", 1, byNight(0, 1, 8, 8, 1));
        due("only 9 9 has 8 8 within", 1, hay.ways());
        due("X", 9, hay.way(0, 1));
        parish("line p 5 5 10 5 10 10 5 10;edge his;");
        for (int r = 1; r <= 3; r++) {
            int around = (2 * r + 1) * (2 * r + 1) - 1;
            int northWest = (r + 1) * (r + 1) - 1;
            due("r " + r, 1, byNight(0, r, 5, 5, 0));
            night(1, around - northWest, 0, 5 - r, 6);
        }

        about("the fewest (0, 1 or 2 corners): 0, if all points are so as it is");
        parish("line p 5 5 10 5 10 10 5 10;edge his;");
        due("none", 0, byNight(0, 3, 5, 5, 1));
        night(0, 1);
    }

    private void rim() {
        about("within 0 to 20");
        parish("line p 0 0 5 0 5 5 0 5;edge his;");
        due("at 0 0", 1, byNight(0, 1, 0, 0, 0));
        night(1, 3, 0, 0, 1);
        parish("line p 15 15 20 15 20 20 15 20;edge his;");
        due("at 20 20", 1, byNight(0, 1, 20, 20, 0));
        night(1, 3, 2, 19, 19);
        parish("line p 15 0 20 0 20 5 15 5;edge his;");
        due("at 20 0", 1, byNight(0, 1, 20, 0, 0));
        night(1, 3, 1, 19, 0);
        parish("line p 0 15 5 15 5 20 0 20;edge his;");
        due("at 0 20", 1, byNight(0, 1, 0, 20, 0));
        night(1, 3, 3, 0, 19);
        parish("line p 1 1 5 1 5 5 1 5;edge his;");
        due("to the rim", 1, byNight(0, 1, 0, 0, 1));
        night(1, 1, 0, 0, 0);
        parish("line p 15 15 19 15 19 19 15 19;edge his;");
        due("to the rim", 1, byNight(0, 1, 20, 20, 1));
        night(1, 1, 2, 20, 20);
    }

    private void neighbours() {
        about("no corner like its neighbours then");
        parish("line p 5 5 6 5 9 9;edge his;");
        due("not to 6 5", 1, byNight(0, 1, 5, 5, 0));
        night(1, 5, 0, 4, 6);
        parish("line p 9 9 5 5 6 5;edge his;");
        due("the same from another corner", 1, byNight(0, 1, 5, 5, 0));
        night(1, 5, 1, 4, 6);
        parish("line p 6 5 9 9 5 5;edge his;");
        due("the same from another corner", 1, byNight(0, 1, 5, 5, 0));
        night(1, 5, 2, 4, 6);
        about("no corner like its neighbours then: where a neighbour was that is MOVED, too, it may be");
        parish("line p 20 20 18 19 19 20;law left;edge his;");
        due("corner 2 to where corner 1 was", 2, byNight(0, 1, 19, 18, 1, 19, 19, 0));
        night(2, 3, 1, 19, 18, 2, 18, 19);
        parish("line p 18 19 17 19 20 20;law left;");
        due("corner 0 to where corner 1 was", 2, byNight(0, 1, 20, 19, 0, 17, 17, 0, 18, 19, 1, 19, 17, 0));
        night(2, 5, 0, 17, 19, 1, 17, 18);
        about("no corner like its neighbours then: two that are MOVED may not come to one place");
        parish("line p 1 2 0 3 0 2;law round;edge his;");
        due("two", 2, byNight(0, 1, 0, 2, 0, 1, 2, 0, 0, 1, 0));
        night(2, 2, 0, 2, 2, 2, 1, 3);
        parish("line p 12 10 9 12 9 11;edge his;");
        due("two", 2, byNight(0, 1, 11, 10, 1, 12, 11, 0, 10, 11, 0));
        night(2, 10, 0, 11, 10, 1, 8, 11);
    }

    private void twoCorners() {
        about("the fewest (0, 1 or 2 corners): one way of two");
        parish("line p 9 11 11 9 11 11 10 12;edge his;");
        due("neighbours", 2, byNight(0, 1, 12, 11, 0, 9, 9, 1));
        night(2, 1, 0, 8, 10, 1, 10, 8);
        parish("line p 12 12 10 10 9 11 9 12;");
        due("the first and the last", 2, byNight(0, 1, 12, 12, 1, 9, 9, 0, 9, 12, 1));
        night(2, 1, 0, 13, 12, 3, 8, 13);
        parish("line p 0 2 0 1 1 3 0 3 1 1;law round;edge his;");
        due("apart", 2, byNight(0, 1, 2, 0, 1, 2, 3, 1, 0, 1, 1));
        night(2, 1, 2, 2, 3, 4, 2, 0);
        parish("line p 18 17 18 18 18 20 18 18 20 19;law round;edge his;");
        due("apart", 2, byNight(0, 1, 19, 20, 1, 19, 17, 1, 19, 18, 0));
        night(2, 1, 1, 19, 17, 4, 19, 20);
    }

    private void order() {
        about("in the order of corners, then of the first one's DX, DY, then the other's, rising");
        parish("line p 5 5 10 5 10 10 5 10;");
        due("one", 1, byNight(0, 1, 5, 7, 1));
        night(1, 6, 0, 4, 4);
        due("one", 1, byNight(0, 1, 10, 7, 1));
        night(1, 6, 1, 11, 4);
        due("two", 2, byNight(0, 1, 5, 7, 1, 10, 7, 1));
        night(2, 36, 0, 4, 4, 1, 11, 4);
        due("a corner below comes first, wherever it goes", 1, byNight(0, 1, 7, 10, 1));
        night(1, 6, 2, 9, 11);
        parish("line p 10 10 5 10 5 5 10 5;");
        due("two, other corners", 2, byNight(0, 1, 5, 7, 1, 10, 7, 1));
        night(2, 36, 0, 11, 9, 1, 4, 9);
    }

    private void lawsByNight() {
        about("so that told points are whose they are told to be: by the law and the edge of the PARISH");
        String back = "line p 2 8 8 8 8 2 2 2;";
        String[] laws = {"odd", "round", "left"};
        for (String law : laws) {
            boolean left = law.equals("left");
            parish(back + "law " + law + ";");
            due(law + ", HIS", left ? -1 : 0, byNight(0, 1, 5, 5, 1));
            due(law + ", not", left ? 0 : -1, byNight(0, 1, 5, 5, 0));
            parish(TWICE + "law " + law + ";");
            due(law + " twice, HIS", law.equals("odd") ? -1 : 0, byNight(0, 1, 5, 5, 1));
            due(law + " twice, not", law.equals("odd") ? 0 : -1, byNight(0, 1, 5, 5, 0));
            due(law + " ON is the parish's", 0, byNight(0, 1, 2, 2, 0));
            parish(TWICE + "edge his;law " + law + ";");
            due(law + " ON is HIS", 0, byNight(0, 1, 2, 2, 1));
            due(law + " all corners have to go", -1, byNight(0, 3, 2, 5, 0, 8, 5, 0, 5, 2, 0, 5, 8, 0));
        }
        about("by left, one corner MOVED turns the LINE round");
        parish("line p 5 5 7 6 9 5;law left;");
        due("to be HIS it has to turn", 1, byNight(0, 3, 7, 4, 1));
        night(1, 3, 1, 6, 3);
    }

    private void moreThanTwo() {
        about("NONE: more than 2");
        parish(FIELD);
        due("far off", -1, byNight(0, 3, 20, 20, 1));
        due("both", -1, byNight(0, 3, 5, 5, 1, 5, 5, 0));
        due("three corners would do", -1, byNight(0, 1, 7, 7, 0, 7, 3, 0, 3, 7, 0));
        due("four corners would do", -1, byNight(0, 1, 2, 2, 1, 8, 2, 1, 8, 8, 1, 2, 8, 1));
        due("two do", 2, byNight(0, 1, 7, 7, 0, 3, 3, 0));
        due("one does", 1, byNight(0, 1, 7, 7, 0));
    }

    private void theLatestByNight() {
        about("Of the latest byNight() that was 0 or more");
        parish(FIELD);
        due("one", 1, byNight(0, 1, 7, 7, 0));
        night(1, 1, 2, 7, 7);
        due("more than 2", -1, byNight(0, 1, 20, 20, 1));
        night(1, 1, 2, 7, 7);
        due("not as told", -2, byNight(0, 9, 3, 3, 0));
        night(1, 1, 2, 7, 7);
        due("not as told", -2, byNight(1, 1, 3, 3, 0));
        night(1, 1, 2, 7, 7);
        due("two", 2, byNight(0, 1, 7, 7, 0, 3, 3, 0));
        night(2, 1, 0, 3, 3, 2, 7, 7);
        due("more than 2", -1, byNight(0, 1, 2, 2, 1, 8, 2, 1, 8, 8, 1, 2, 8, 1));
        night(2, 1, 0, 3, 3, 2, 7, 7);
        hay.move(0, 0, 1, 1);
        night(2, 1, 0, 3, 3, 2, 7, 7);
        due("none", 0, byNight(0, 1, 7, 7, 1));
        night(0, 1);
        parish("");
        due("a new PARISH leaves it", 1, hay.ways());
        about("byNight changes nothing else");
        parish(FIELD);
        byNight(0, 1, 7, 7, 0, 3, 3, 0);
        due("corner", 2, hay.corner(0, 0, 0));
        due("MOVED", 0, hay.count(6));
        due("undo", -1, hay.undo());
        about("its k-th corner (0, 1)");
        parish(FIELD);
        byNight(0, 1, 7, 7, 0, 3, 3, 0);
        bounds("k", 0, 1, -1, k -> hay.way(k, 0));
        bounds("what", 0, 2, -1, what -> hay.way(1, what));
    }

    private void eightPoints() {
        about("points: 1 to 8, all of them");
        parish(FIELD);
        for (int place = 0; place < 8; place++) {
            int[] bytes = new int[24];
            for (int k = 0; k < 8; k++) {
                bytes[3 * k] = k == place ? 7 : 4;
                bytes[3 * k + 1] = k == place ? 7 : 4;
                bytes[3 * k + 2] = k == place ? 0 : 1;
            }
            due("the one at place " + place, 1, byNight(0, 1, bytes));
            night(1, 1, 2, 7, 7);
            due("a RECTANGLE of seven like ones", 4, rectangle(bytes));
        }
        parish(FIELD);
        due("two neighbours, eight points", 2, byNight(0, 1, 7, 7, 0, 7, 3, 0, 3, 3, 1, 3, 7, 1, 4, 4, 1, 5, 5, 1, 4, 6, 1,
            9, 9, 0));
        night(2, 9, 1, 7, 1, 2, 7, 7);
        about("BY NIGHT of a LINE of 12 corners");
        parish("line p 2 2 8 2 8 8 2 8 2 2 8 2 8 8 2 8 2 2 8 2 8 8 2 8;");
        due("the last corner", 0, byNight(0, 1, 3, 7, 1));
        due("one of three alike is enough by odd", 1, byNight(0, 1, 3, 7, 0));
        night(1, 3, 3, 3, 7);
        about("points: three times round");
        parish("line p 2 2 8 2 8 8 2 8 2 2 8 2 8 8 2 8 2 2 8 2 8 8 2 8;law round;");
        due("three times round, eight times", 0, byNight(0, 1, 3, 3, 1, 4, 4, 1, 5, 5, 1, 6, 6, 1, 7, 7, 1, 3, 7, 1, 7, 3, 1,
            4, 6, 1));
        parish("line p 2 8 8 8 8 2 2 2 2 8 8 8 8 2 2 2 2 8 8 8 8 2 2 2;law left;");
        due("three times round the other way, eight times", 0, byNight(0, 1, 3, 3, 0, 4, 4, 0, 5, 5, 0, 6, 6, 0, 7, 7, 0,
            3, 7, 0, 7, 3, 0, 4, 6, 0));
    }

    private void sides(int... due) {
        for (int what = 0; what < 4; what++) {
            due("side " + what, due[what], hay.side(what));
        }
    }

    private void rectangles() {
        about("(X1 below X2, Y1 below Y2), by which each is whose it is told to be");
        due("the least of all", 2, rectangle(5, 5, 0));
        sides(0, 0, 1, 1);
        due("round one point", 4, rectangle(5, 5, 1));
        sides(4, 4, 6, 6);
        due("at its corners points are the parish's", 4, rectangle(5, 5, 1, 4, 4, 0, 6, 4, 0, 4, 6, 0, 6, 6, 0));
        sides(4, 4, 6, 6);
        due("round two", 5, rectangle(5, 5, 1, 6, 5, 1));
        sides(4, 4, 7, 6);
        due("round two", 5, rectangle(5, 5, 1, 5, 6, 1));
        sides(4, 4, 6, 7);
        due("none between", -1, rectangle(5, 5, 1, 7, 5, 1, 6, 5, 0));
        due("both", -1, rectangle(5, 5, 1, 5, 5, 0));
        parish("edge his;");
        due("a corner of it", 2, rectangle(5, 5, 1));
        sides(4, 4, 5, 5);
        due("not at its rim", 2, rectangle(5, 5, 1, 4, 4, 0));
        sides(4, 5, 5, 6);
        due("none that is so small", -1, rectangle(5, 5, 1, 4, 5, 0, 6, 5, 0));
        about("by each law");
        String[] laws = {"odd", "round", "left"};
        for (String law : laws) {
            parish("law " + law + ";");
            due(law, 4, rectangle(5, 5, 1));
            sides(4, 4, 6, 6);
            parish("edge his;law " + law + ";" + FIELD);
            due(law, 2, rectangle(5, 5, 1));
            sides(4, 4, 5, 5);
        }
    }

    private void rectanglesAtTheRim() {
        about("corners of a RECTANGLE: 0 to 20");
        due("all", 40, rectangle(1, 1, 1, 19, 19, 1));
        sides(0, 0, 20, 20);
        due("the last point within", 4, rectangle(19, 19, 1));
        sides(18, 18, 20, 20);
        due("the first point within", 4, rectangle(1, 1, 1));
        sides(0, 0, 2, 2);
        int[][] rim = {{0, 5}, {5, 0}, {20, 5}, {5, 20}, {0, 0}, {20, 20}};
        for (int[] p : rim) {
            due("the rim is never within " + p[0] + " " + p[1], -1, rectangle(p[0], p[1], 1));
        }
        parish("edge his;");
        due("all", 40, rectangle(0, 0, 1, 20, 20, 1));
        sides(0, 0, 20, 20);
        due("the last point", 2, rectangle(20, 20, 1));
        sides(19, 19, 20, 20);
        due("the last column", 21, rectangle(20, 0, 1, 20, 20, 1));
        sides(19, 0, 20, 20);
        due("the last row", 21, rectangle(0, 20, 1, 20, 20, 1));
        sides(0, 19, 20, 20);
        for (int[] p : rim) {
            due("the rim is HIS " + p[0] + " " + p[1], 2, rectangle(p[0], p[1], 1));
        }
    }

    /** Of the least ones no two have X1 and Y1 alike: what is in both would be less; so X2, Y2 never decide. */
    private void rectanglesInOrder() {
        about("the least X2 - X1 + Y2 - Y1; of like ones the first by X1, Y1, X2, Y2");
        parish("edge his;");
        due("X1 first", 2, rectangle(0, 0, 0));
        sides(0, 1, 1, 2);
        due("then Y1", 2, rectangle(0, 0, 0, 0, 2, 0));
        sides(0, 3, 1, 4);
        due("the least sum ahead of X1", 2, rectangle(5, 5, 1, 4, 4, 0, 4, 5, 0, 4, 6, 0));
        sides(5, 4, 6, 5);
        due("X1 below, though Y1 is above", 2, rectangle(5, 5, 1, 4, 4, 0));
        sides(4, 5, 5, 6);
        due("the least sum ahead of X1: a wider one would begin at 0", 3, rectangle(5, 5, 1, 5, 7, 1));
        sides(4, 5, 5, 7);
        due("a tall one", 4, rectangle(5, 5, 1, 5, 8, 1));
        sides(4, 5, 5, 8);
        due("a wide one", 4, rectangle(5, 5, 1, 8, 5, 1));
        sides(5, 4, 8, 5);
    }

    private void theLatestRectangle() {
        about("Of the latest rectangle() that was above 0");
        due("one", 4, rectangle(5, 5, 1));
        due("none", -1, rectangle(0, 5, 1));
        sides(4, 4, 6, 6);
        due("not as told", -2, rectangle(21, 5, 1));
        sides(4, 4, 6, 6);
        due("not as told", -2, rectangle());
        sides(4, 4, 6, 6);
        parish(FIELD);
        sides(4, 4, 6, 6);
        due("another", 4, rectangle(7, 9, 1));
        sides(6, 8, 8, 10);
        bounds("side, what", 0, 3, -1, what -> hay.side(what));
    }

    private void ends(int... due) {
        for (int what = 0; what < 4; what++) {
            due("paced " + what, due[what], hay.paced(what));
        }
    }

    private void pacesEnd() {
        about("0 how far east they end (below 0: west), 1 how far south");
        paces("e 7;e 2;");
        due("east", 9, hay.paced(0));
        due("not south", 0, hay.paced(1));
        paces("w 7;n 2;");
        due("west", -7, hay.paced(0));
        due("north", -2, hay.paced(1));
        paces("s 99;".repeat(30));
        due("far south", 2970, hay.paced(1));
        paces("w 99;".repeat(30));
        due("far west", -2970, hay.paced(0));
        about("NONE - 1000: another what");
        paces("e 7;e 2;");
        bounds("what", 0, 3, -1001, what -> hay.paced(what));
    }

    private void mended() {
        about("MENDED: the fewest ROWS whose N change (1 to 99); the least sum of changes (of all with so few ROWS)");
        paces("n 5;e 7;s 5;w 7;");
        ends(0, 0, 0, 0);
        paces("e 1;w 99;");
        ends(-98, 0, 1, 98);
        paces("n 1;s 99;");
        ends(0, 98, 1, 98);
        paces("e 99;e 1;w 1;");
        ends(99, 0, 2, 99);
        paces("e 98;e 1;w 1;");
        ends(98, 0, 1, 98);
        paces("w 99;w 1;e 1;");
        ends(-99, 0, 2, 99);
        paces("w 98;w 1;e 1;");
        ends(-98, 0, 1, 98);
        paces("n 99;n 1;s 1;");
        ends(0, -99, 2, 99);
        paces("s 99;s 1;n 1;");
        ends(0, 99, 2, 99);
        paces("e 50;e 50;e 50;w 1;");
        ends(149, 0, 3, 149);
        paces("e 50;e 50;e 48;w 1;");
        ends(147, 0, 2, 147);
        paces("e 2;w 1;s 1;n 2;");
        ends(1, -1, 2, 2);
        paces("e 99;e 99;e 99;w 1;");
        ends(296, 0, 4, 296);
        paces("e 99;e 99;w 50;w 50;");
        ends(98, 0, 1, 98);
        paces("e 99;e 99;w 50;w 49;");
        ends(99, 0, 2, 99);
        paces("e 99;e 99;w 50;w 49;n 3;s 4;");
        ends(99, 1, 3, 100);
        paces("e 99;".repeat(29) + "w 1;");
        ends(29 * 99 - 1, 0, 30, 29 * 99 - 1);
    }

    private void cannotBeMended() {
        about("NONE: they can't be; 3 the sum of changes (NONE, likewise)");
        paces("e 1;e 1;");
        ends(2, 0, -1, -1);
        paces("n 1;e 1;w 1;");
        ends(0, -1, -1, -1);
        paces("e 1;n 1;s 1;");
        ends(1, 0, -1, -1);
        paces("w 99;s 99;");
        ends(-99, 99, -1, -1);
        paces("e 1;w 1;");
        ends(0, 0, 0, 0);
        about("both ways there: they always can be");
        for (int many = 1; many < 30; many++) {
            paces("e 99;".repeat(many) + "w 1;");
            due("ROWS", true, hay.paced(2) > 0);
            due("sum", 99 * many - 1, hay.paced(3));
        }
    }

    private void theLatestPaces() {
        about("Of the latest paces() without a FAULT");
        paces("e 3;w 1;");
        ends(2, 0, 1, 2);
        String[] bad = {"", "e 9;", "e 9;x", "e 0;w 1;", "e 9;w 1", "e 9;".repeat(31), "e 9;w 1;" + " ".repeat(293)};
        for (String text : bad) {
            due("FAULT of '" + text + "'", true, paces(text) < 0);
            ends(2, 0, 1, 2);
        }
        parish(FIELD);
        ends(2, 0, 1, 2);
        paces("s 4;n 4;");
        ends(0, 0, 0, 0);
    }

    private void theLatestClaims() {
        about("The first ROW that was not so (from 0), by the latest claims() that had no FAULT (and was not -2000)");
        due("ahead of any", -1, hay.wrong());
        hay.claims(0);
        due("ahead of any but -2000", -1, hay.wrong());
        parish(FIELD + "hay h 3 3 1;");
        claims(0, "h parish;x");
        due("ahead of any without a FAULT", -1, hay.wrong());
        for (int row = 0; row < 5; row++) {
            due("two are not so", 2, claims(0, "h his;".repeat(row) + "h parish;h his;h parish;"));
            due("the first of them", row, hay.wrong());
            due("FAULT", true, claims(0, "h his;".repeat(7) + "h parish;x") < 0);
            due("a FAULT leaves it", row, hay.wrong());
            due("FAULT", true, claims(0, "h parish;" + " ".repeat(300)) < 0);
            due("a FAULT leaves it", row, hay.wrong());
            due("-2000", -2000, claims(1, ""));
            due("-2000 leaves it", row, hay.wrong());
        }
        due("none is not so", 0, claims(0, "h his;"));
        due("none", -1, hay.wrong());
        claims(0, "h parish;");
        due("ROW 0", 0, hay.wrong());
        due("no ROWS", 0, claims(0, ""));
        due("none", -1, hay.wrong());
    }
}
