import java.util.List;

/** Each sentence of the document that bounds the tape, a text, a TOKEN or a FAULT; promises 1 to 5, 15, 24, 38. */
public final class TextBoundariesTest extends Trial {
    private static final List<String> WORDS = List.of("line", "hay", "church", "law", "odd", "round", "left", "edge",
        "his", "parish", "heirs", "n", "e", "s", "w", "point", "on");
    private static final String PLACE = FIELD + "hay hayrick 10 10 1;hay h 4 4 1;";

    public static void main(String[] args) {
        TextBoundariesTest test = new TextBoundariesTest();
        test.newObject();
        test.feed();
        test.end();
        test.blanks();
        test.words();
        test.numbers();
        test.runs();
        test.cornersOfALine();
        test.cornersAlike();
        test.numbersOfRows();
        test.toldOnce();
        test.withoutBeingTold();
        test.names();
        test.linesAndHays();
        test.parishBytes();
        test.otherBytes();
        test.readWhole();
        test.theEnd();
        test.firstAlongTheText();
        test.ofOneTokenTheLeast();
        test.aParishStays();
        test.faultsOfTheLatest();
        test.claimRows();
        test.walkRows();
        test.walkLeaves();
        test.paceRows();
        test.theTapeIsEmptyThen();
        close("text boundaries");
    }

    private static String blanks(int many) {
        return " ".repeat(many);
    }

    private void newObject() {
        about("An empty PARISH; an empty tape");
        due("tape", 0, hay.count(7));
        due("LINES", 0, hay.count(0));
        due("HAYS", 0, hay.count(1));
        due("nothing to cut", false, hay.end(1));
        due("the empty tape is an empty text", 0, hay.parish());
    }

    private void feed() {
        about("Twenty bytes come behind the tape, of each number the highest first");
        due("law odd; edge his;", 20, hay.feed(0x6c617720, 0x6f64643b, 0x65646765, 0x20686973, 0x3b202020));
        due("all five numbers, in their order", 2, hay.parish());
        due("edge", 1, hay.count(5));
        hay.feed(0x6c617720, 0, 0, 0, 0);
        hay.end(4);
        due("behind what is left", 24, hay.feed(0x6c656674, 0x3b000000, 0, 0, 0));
        hay.end(9);
        due("law left;", 1, hay.parish());
        due("law", 2, hay.count(4));
        hay.feed(0x80000000, 0, 0, 0, 0);
        hay.end(3);
        due("128 is no X", -2, hay.rectangle());
        hay.feed(-1, -1, -1, -1, -1);
        hay.end(3);
        due("255 is no X", -2, hay.rectangle());

        about("NONE, and none come, if it would have more than 940");
        for (int k = 1; k <= 47; k++) {
            due("feed", 20 * k, hay.feed(0, 0, 0, 0, 0));
        }
        due("960", -1, hay.feed(0, 0, 0, 0, 0));
        due("940 stay", 940, hay.count(7));
        int[] left = {939, 930, 921, 920, 919};
        int[] then = {-1, -1, -1, 940, 939};
        for (int k = 0; k < left.length; k++) {
            due("end", true, hay.end(left[k]));
            due("feed behind " + left[k], then[k], hay.feed(1, 1, 1, 1, 1));
            due("it has", Math.max(left[k], then[k]), hay.count(7));
            hay.end(0);
            for (int n = 0; n < 47; n++) {
                hay.feed(0, 0, 0, 0, 0);
            }
        }
        about("none come");
        tell("law left;" + blanks(921));
        due("930 and 20", -1, hay.feed(-1, -1, -1, -1, -1));
        hay.end(9);
        due("the old bytes stay", 1, hay.parish());
    }

    private void end() {
        about("The tape has its first n bytes alone");
        tell("law left;edge his;x");
        due("all but one", true, hay.end(18));
        due("two ROWS", 2, hay.parish());
        tell("law left;edge his;x");
        due("the first", true, hay.end(9));
        due("one ROW", 1, hay.parish());
        tell("law left;");
        due("none", true, hay.end(0));
        due("no ROW", 0, hay.parish());
        tell("law left;");
        due("all", true, hay.end(9));
        due("they stay", 9, hay.count(7));

        about("false, if it has not so many, or n is below 0");
        due("1 of an empty tape", false, hay.end(1));
        due("0 of an empty tape", true, hay.end(0));
        tell("law odd;");
        int[] not = {9, 940, 941, -1, Integer.MIN_VALUE, Integer.MAX_VALUE};
        for (int n : not) {
            due("end " + n, false, hay.end(n));
            due("nothing is cut", 8, hay.count(7));
        }
        due("8", true, hay.end(8));
        due("bytes that were cut do not come back", true, hay.end(3) && !hay.end(4));
    }

    private void blanks() {
        about("with blanks (32, 10) between them or not");
        for (int c = 0; c < 256; c++) {
            renew();
            String sign = String.valueOf((char) c);
            boolean isRun = c >= 'a' && c <= 'z' || c >= '0' && c <= '9';
            if (c == 32 || c == 10) {
                sound(1, sign + "law" + sign + "odd" + sign + ";" + sign);
                sound(0, sign);
                sound(0, sign + sign + sign);
            } else {
                faulty(1, 0, sign + " law odd;");
                faulty(1, 8, "law odd;" + sign);
                faulty(1, isRun ? 0 : 3, "law" + sign + "odd;");
                faulty(1, isRun ? 4 : c == ';' ? 8 : 7, "law odd" + sign + ";");
            }
        }
    }

    private void words() {
        about("WORDS: small letters, 1 to 7");
        sound(1, "hay a 1 2 3;");
        sound(1, "hay abcdefg 1 2 3;");
        sound(1, "hay zzzzzzz 1 2 3;");
        faulty(1, 4, "hay abcdefgh 1 2 3;");
        faulty(1, 4, "hay " + "z".repeat(300) + " 1 2 3;");
        faulty(1, 0, "aaaaaaaalaw odd;");
        faulty(1, 4, "hay A 1 2 3;");
        faulty(1, 5, "hay aB 1 2 3;");
        sound(2, "hay abcdefg 1 2 3;hay abcdefh 1 2 3;");
        sound(2, "hay abcdefg 1 2 3;hay bbcdefg 1 2 3;");
        sound(3, "hay a 1 2 3;hay aa 1 2 3;hay aaaaaaa 1 2 3;");
    }

    private void numbers() {
        about("NUMBERS: 1 to 2 digits");
        sound(1, "hay h 0 00 9;");
        sound(1, "hay h 07 19 99;");
        due("X", 7, hay.hay(0, 0));
        due("LOADS", 99, hay.hay(0, 2));
        faulty(1, 6, "hay h 007 1 1;");
        faulty(1, 6, "hay h 000 1 1;");
        faulty(1, 6, "hay h 4294967297 1 1;");
        faulty(1, 6, "hay h " + "0".repeat(300) + " 1 1;");
        faulty(1, 6, "hay h -1 1 1;");
        faulty(1, 7, "hay h 1.5 1 1;");
        about("a sign where a NUMBER is asked is no NUMBER of no digits");
        faulty(1, 6, "hay h . 1 1;");
        faulty(1, 7, "church . 1;");
        faulty(1, 6, "heirs A 1 2 3;");
        faulty(1, 7, "line p . 1 2 3 4 5;");
        faulty(1, 9, "line p 1 . 2 3 4 5;");
        parish(PLACE);
        claimsFaulty(1, 6, "point . 1 his;");
        walkFaulty(1, 2, "n .;");
        pacesFaulty(1, 2, "n .;");
    }

    private void runs() {
        about("A WORD, NUMBER goes on as long as small letters and digits do; what is not as told is no TOKEN");
        faulty(1, 0, "lawodd;");
        faulty(1, 0, "law1 odd;");
        faulty(1, 0, "1law odd;");
        faulty(1, 4, "law odd1;");
        faulty(1, 4, "law 1odd;");
        faulty(1, 4, "hay h1 1 1 1;");
        faulty(1, 6, "hay h 1a 1 1;");
        faulty(1, 6, "hay h a1 1 1;");
        sound(2, "law odd;edge his;");
        parish(PLACE);
        walkFaulty(1, 0, "n1;");
        pacesFaulty(1, 0, "n1;");
        claimsFaulty(1, 0, "point1 1 his;");
        claimsFaulty(1, 8, "point 1 1his;");
    }

    private static String corners(int many) {
        StringBuilder text = new StringBuilder();
        for (int k = 0; k < many; k++) {
            text.append(' ').append(k).append(' ').append(3 + k % 2);
        }
        return text.toString();
    }

    private void cornersOfALine() {
        about("its corners, 3 to 12; a 13th corner (at its X), a LINE of one or two corners (at the ;)");
        for (int many = 0; many <= 14; many++) {
            String text = "line p" + corners(many) + ";";
            if (many >= 3 && many <= 12) {
                sound(1, text);
                due("corners", many, hay.line(0, 0));
            } else if (many > 12) {
                faulty(4, ("line p" + corners(12)).length() + 1, text);
            } else {
                faulty(many == 0 ? 1 : 4, text.length() - 1, text);
            }
        }
        about("an X without a Y can't close a ROW");
        for (int many = 0; many < 12; many++) {
            String text = "line p" + corners(many) + " 7;";
            faulty(1, text.length() - 1, text);
        }
        faulty(4, ("line p" + corners(12)).length() + 1, "line p" + corners(12) + " 7;");
        about("a LINE of one or two corners (at the ;), wherever that is");
        faulty(4, 13, "line p 1 1   ;");
        faulty(4, 15, "line p 1 1 2 2\n;");

        about("X, Y of corners 0 to 20");
        for (int place = 0; place < 24; place++) {
            renew();
            String[] most = ("line p" + corners(12)).split(" ");
            most[2 + place] = "20";
            sound(1, String.join(" ", most) + ";");
            due("20 is a corner's", 20, hay.corner(0, place / 2, place % 2));
            most[2 + place] = "0";
            sound(1, String.join(" ", most) + ";");
            most[2 + place] = "21";
            String text = String.join(" ", most) + ";";
            faulty(2, text.indexOf(" 21") + 1, text);
            most[2 + place] = "99";
            faulty(2, text.indexOf(" 21") + 1, String.join(" ", most) + ";");
        }
    }

    private void cornersAlike() {
        about("a corner like the one ahead of it (at its Y)");
        for (int k = 1; k < 12; k++) {
            String ahead = "line p" + corners(k);
            String alike = ahead.substring(("line p" + corners(k - 1)).length());
            String text = ahead + alike + " 20 20 19 19;";
            faulty(3, (ahead + alike).lastIndexOf(' ') + 1, text);
        }
        sound(1, "line p 5 5 5 6 5 7;");
        sound(1, "line p 5 5 6 5 7 5;");
        sound(1, "line p 5 6 6 5 5 7;");
        sound(1, "line p 5 5 7 7 5 5 7 7;");
        faulty(2, 9, "line p 5 21 5 21 1 1;");

        about("the last like the first (at the ;)");
        for (int many = 3; many <= 12; many++) {
            String text = "line p" + corners(many - 1) + " 0 3 ;";
            faulty(3, text.length() - 1, text);
        }
        sound(1, "line p 5 5 6 6 5 7;");
        sound(1, "line p 5 5 6 6 7 5;");
        sound(1, "line p 5 6 6 6 6 5;");
        about("the last like the first: not, while a corner may come");
        sound(1, "line p 5 5 6 6 5 5 6 7;");
    }

    private void numbersOfRows() {
        about("'hay' NAME X Y LOADS (a SQUARE; 0 to 99)");
        sound(1, "hay h 0 0 0;");
        sound(1, "hay h 19 19 99;");
        faulty(2, 6, "hay h 20 0 0;");
        faulty(2, 8, "hay h 0 20 0;");
        faulty(1, 10, "hay h 0 0 100;");

        about("'church' X Y (a SQUARE)");
        sound(1, "church 0 0;");
        sound(1, "church 19 19;");
        due("X", 19, hay.count(2));
        due("Y", 19, hay.count(3));
        faulty(2, 7, "church 20 0;");
        faulty(2, 9, "church 0 20;");
        faulty(1, 7, "church ;");
        faulty(1, 8, "church 0;");

        about("'heirs' N N N N (0 to 9 each)");
        sound(1, "heirs 9 9 9 9;");
        sound(1, "heirs 0 0 0 0;");
        sound(1, "heirs 09 0 0 0;");
        for (int place = 0; place < 4; place++) {
            String[] four = {"9", "9", "9", "9"};
            four[place] = "10";
            faulty(2, 6 + 2 * place, "heirs " + String.join(" ", four) + ";");
            four[place] = "x";
            faulty(1, 6 + 2 * place, "heirs " + String.join(" ", four) + ";");
            four[place] = ";";
            faulty(1, 6 + 2 * place, "heirs " + String.join(" ", four) + ";");
        }
        faulty(1, 14, "heirs 0 0 0 0 0;");

        about("'law' ( 'odd' | 'round' | 'left' ), 'edge' ( 'his' | 'parish' )");
        for (String word : WORDS) {
            renew();
            int law = List.of("odd", "round", "left").indexOf(word);
            int edge = List.of("parish", "his").indexOf(word);
            if (law >= 0) {
                sound(1, "law " + word + ";");
                due(word, law, hay.count(4));
            } else {
                faulty(1, 4, "law " + word + ";");
            }
            if (edge >= 0) {
                sound(1, "edge " + word + ";");
                due(word, edge, hay.count(5));
            } else {
                faulty(1, 5, "edge " + word + ";");
            }
        }
        faulty(1, 4, "law ;");
        faulty(1, 5, "edge ;");
        faulty(1, 8, "law odd odd;");
        faulty(1, 9, "edge his his;");
    }

    private void toldOnce() {
        about("what is told once told again (at its WORD)");
        String[] rows = {"church 1 2;", "law odd;", "edge parish;", "heirs 0 1 2 3;"};
        for (String row : rows) {
            renew();
            String word = row.substring(0, row.indexOf(' '));
            faulty(3, row.length(), row + row);
            faulty(3, row.length() + 1, row + " " + word);
            faulty(3, row.length(), row + word + " x");
            faulty(3, row.length() + 12, row + "hay h 1 2 3;" + row);
            sound(1, row);
            sound(1, row);
            faulty(1, row.length(), row + word + "s");
        }
        sound(4, String.join("", rows));
        about("a FAULT behind it does not keep a ROW from being told");
        faulty(1, 11, "church 1 2;x");
        sound(1, "church 3 4;");
    }

    private void withoutBeingTold() {
        about("0 0 without; odd without; parish without; 0 1 2 3 without");
        String all = "line p 1 1 3 1 3 3 1 3;line q 2 2 4 2 4 4 2 4;church 5 6;law left;edge his;heirs 9 8 7 6;";
        due("told", 6, parish(all));
        due("told", 6, parish(all));
        for (int k = 0; k < 3; k++) {
            due("not told", 2, parish(all.substring(0, all.indexOf("church"))));
            due("church X", 0, hay.count(2));
            due("church Y", 0, hay.count(3));
            due("law", 0, hay.count(4));
            due("edge", 0, hay.count(5));
            due("neither", 0, hay.heir(0, 0));
            due("LINE 0 alone", 1, hay.heir(1, 1));
            due("LINE 1 alone", 2, hay.heir(3, 3));
            due("both", 3, hay.heir(2, 2));
        }
        due("not told", 0, parish(""));
        due("no LINES", 0, hay.count(0));
        due("nobody's", 400, hay.estate(0));
        parish(all);
        parish("law round;");
        due("what is told alone changes", 1, hay.count(4));
        due("edge", 0, hay.count(5));
        due("church", 0, hay.count(2) + hay.count(3));
    }

    private void names() {
        about("NAME: a WORD, none of those told here, in a WALK or in CLAIMS");
        for (String word : WORDS) {
            renew();
            faulty(1, 5, "line " + word + " 0 0 5 0 5 5;");
            faulty(1, 4, "hay " + word + " 0 0 0;");
            sound(2, "line " + word.charAt(0) + "x 0 0 5 0 5 5;hay " + word.charAt(0) + "y 0 0 0;");
        }
        sound(1, "hay lines 0 0 0;");
        sound(1, "hay hays 0 0 0;");
        sound(1, "hay nn 0 0 0;");
        faulty(1, 5, "line 5 0 0 5 0 5 5;");
        faulty(1, 4, "hay ;");

        about("a NAME told twice (at it)");
        faulty(3, 24, "line p 0 0 5 0 5 5;line p");
        faulty(3, 23, "line p 0 0 5 0 5 5;hay p");
        faulty(3, 17, "hay p 0 0 0;line p");
        faulty(3, 16, "hay p 0 0 0;hay p");
        faulty(3, 40, "hay p 0 0 0;hay q 0 0 0;hay r 0 0 0;hay p 1");
        faulty(3, 28, "hay q 0 0 0;hay r 0 0 0;hay r 1");
        sound(1, "hay p 0 0 0;");
        sound(1, "hay p 0 0 0;");
        due("a NAME of the PARISH ahead of it is free", 1, parish("line p 0 0 5 0 5 5;"));
        faulty(1, 12, "hay z 0 0 0;x");
        due("a NAME of a text with a FAULT is free", 1, parish("hay z 0 0 0;"));
    }

    private void linesAndHays() {
        about("3 LINES, 10 HAYS at most, numbered from 0 each");
        String line = "line %s %d 0 5 0 5 5;";
        StringBuilder text = new StringBuilder();
        for (int k = 0; k < 3; k++) {
            String name = "l" + "abc".charAt(k);
            text.append(String.format(line, name, k)).append("hay h").append("abc".charAt(k)).append(' ').append(k)
                .append(" 0 0;");
        }
        sound(6, text.toString());
        for (int k = 0; k < 3; k++) {
            int at = k;
            due("LINE " + k, k, hay.corner(k, 0, 0));
            due("HAY " + k, k, hay.hay(k, 0));
            due("no corner 3", THROWS, orThrows(() -> hay.corner(at, 3, 0)));
        }
        due("no LINE 3", THROWS, orThrows(() -> hay.corner(3, 0, 0)));
        due("no HAY 3", THROWS, orThrows(() -> hay.hay(3, 0)));

        about("a fourth LINE, an 11th HAY (at its first WORD)");
        faulty(4, text.length(), text + "line ld 3 0 5 0 5 5;");
        faulty(4, text.length(), text + "line");
        faulty(4, text.length() + 2, text + " \nline la");
        faulty(1, text.length(), text + "lines");
        StringBuilder ten = new StringBuilder();
        for (int k = 0; k < 10; k++) {
            ten.append("hay x").append((char) ('a' + k)).append(' ').append(k).append(" 0 1;");
        }
        sound(10, ten.toString());
        due("HAY 9", 9, hay.hay(9, 0));
        due("no HAY 10", THROWS, orThrows(() -> hay.hay(10, 0)));
        due("no LINES", 0, hay.count(0));
        faulty(4, ten.length(), ten + "hay z 1 1 1;");
        faulty(4, ten.length(), ten + "hay xa");
        faulty(4, ten.length(), ten + "hay");
        sound(13, ten + "line a 0 0 5 0 5 5;line b 0 0 5 0 5 5;line c 0 0 5 0 5 5;");
    }

    private void parishBytes() {
        about("A PARISH is a text of at most 900 bytes");
        sound(1, "law odd;" + blanks(891));
        sound(1, "law odd;" + blanks(892));
        sound(1, blanks(892) + "law odd;");
        sound(0, blanks(900));
        faulty(1, 900, "law odd;" + blanks(893));
        faulty(1, 900, "law odd;" + blanks(932));
        faulty(1, 900, blanks(893) + "law odd;");
        faulty(1, 900, blanks(901));
        faulty(1, 900, blanks(900) + "law odd;");

        about("the most bytes told, if there are more and no FAULT is ahead");
        faulty(1, 900, blanks(900) + "X");
        faulty(1, 899, blanks(899) + "X ");
        faulty(1, 900, "law" + blanks(900));
        faulty(1, 0, "X" + blanks(920));
        faulty(2, 7, "church 20 0;" + blanks(920));
        faulty(4, 10, "line p 1 1;" + blanks(920));
    }

    private void otherBytes() {
        about("A WALK, PACES, CLAIMS: a text of at most 300 bytes");
        parish(PLACE);
        due("claims of 300", 0, claims(0, "h his;" + blanks(294)));
        due("claims of 300", 0, claims(0, blanks(294) + "h his;"));
        claimsFaulty(1, 300, "h his;" + blanks(295));
        claimsFaulty(1, 300, "h his;" + blanks(930));
        claimsFaulty(1, 300, blanks(295) + "h his;");
        claimsFaulty(1, 300, blanks(300) + "X");
        claimsFaulty(1, 299, blanks(299) + "X ");
        claimsFaulty(3, 0, "x his;" + blanks(930));
        renew();
        parish(PLACE);
        due("a walk of 300", 0, walk(0, 0, "n 1;" + blanks(296)));
        due("a walk of 300", 0, walk(0, 0, blanks(296) + "n 1;"));
        walkFaulty(1, 300, "n 1;" + blanks(297));
        walkFaulty(1, 300, "n 1;" + blanks(930));
        walkFaulty(1, 300, blanks(297) + "n 1;");
        walkFaulty(1, 299, blanks(299) + "X ");
        walkFaulty(2, 2, "n 0;" + blanks(930));
        walkFaulty(5, 0, "n 20;" + blanks(930));
        renew();
        due("paces of 300", 2, paces("n 1;n 1;" + blanks(292)));
        due("paces of 300", 2, paces(blanks(292) + "n 1;n 1;"));
        pacesFaulty(1, 300, "n 1;n 1;" + blanks(293));
        pacesFaulty(1, 300, "n 1;n 1;" + blanks(930));
        pacesFaulty(1, 300, blanks(293) + "n 1;n 1;");
        pacesFaulty(1, 299, blanks(299) + "X ");
        pacesFaulty(2, 2, "n 0;" + blanks(930));
        pacesFaulty(1, 300, "n 1;" + blanks(930));
    }

    private void readWhole() {
        about("TOKENS that begin ahead of it are read whole");
        faulty(1, 900, blanks(895) + "hay abcdefg 1 1 1;");
        faulty(1, 895, blanks(895) + "haystac");
        faulty(1, 895, blanks(895) + "abcdefghijkl");
        faulty(1, 899, blanks(895) + "hay abcdefgh 1 1 1;");
        faulty(1, 899, blanks(895) + "hay point 1 1 1;");
        faulty(1, 899, blanks(895) + "hay a1 1 1 1;");
        renew();
        faulty(3, 899, "hay abcdefg 1 1 1;" + blanks(877) + "hay abcdefg 1 1 1;");
        faulty(1, 900, blanks(892) + "church 19 19;");
        faulty(2, 899, blanks(892) + "church 20 19;");
        faulty(1, 899, blanks(892) + "church 100 19;");
        faulty(1, 900, blanks(893) + "church 20 19;");
        faulty(3, 899, "church 1 1;" + blanks(888) + "church 1 1;");
        renew();
        parish(PLACE);
        claimsFaulty(1, 300, blanks(299) + "hayrick his;");
        claimsFaulty(3, 299, blanks(299) + "hayric his;");
        claimsFaulty(1, 299, blanks(299) + "hayrickx his;");
        claimsFaulty(2, 299, blanks(293) + "point 21 1 his;");
        claimsFaulty(1, 300, blanks(293) + "point 20 1 his;");
        claimsFaulty(1, 300, blanks(297) + "h parish;");
        claimsFaulty(1, 297, blanks(295) + "h parishes;");
        walkFaulty(2, 299, blanks(297) + "n 21;");
        walkFaulty(5, 297, blanks(297) + "n 20;");
        walkFaulty(1, 300, blanks(297) + "n 01;");
        walkFaulty(1, 299, blanks(297) + "n 001;");
        walkFaulty(1, 299, blanks(299) + "north 1;");
        pacesFaulty(2, 299, blanks(297) + "n 00;");
        pacesFaulty(1, 300, blanks(297) + "n 99;");
        pacesFaulty(1, 299, blanks(297) + "n 990;");
        pacesFaulty(1, 299, blanks(299) + "ne 1;");
        pacesFaulty(4, 299, "n 1;".repeat(30) + blanks(179) + "n 1;");
        pacesFaulty(1, 300, "n 1;".repeat(30) + blanks(180) + "n 1;");
    }

    /** Every text that ends within a ROW ends too early; at the end of a ROW it does not. */
    private void cut(Cut read, String tokens) {
        String[] all = tokens.split(" ");
        StringBuilder text = new StringBuilder();
        for (int k = 0; k < all.length; k++) {
            text.append(all[k]);
            for (int more = 0; more < 3; more++) {
                boolean whole = all[k].equals(";");
                int got = read.answer(text.toString());
                due("'" + text + "' has the FAULT at its end", !whole, got == -1 - text.length());
                due("'" + text + "' fault", whole ? 0 : 1, hay.fault());
                text.append(more == 0 ? " " : "\n");
            }
        }
    }

    private interface Cut {
        int answer(String text);
    }

    private void theEnd() {
        about("1 .. one that can't come (the end: how many bytes there are)");
        cut(this::parish, "line p 0 0 5 0 5 5 ;");
        renew();
        cut(this::parish, "hay h 1 2 3 ; church 1 2 ; law left ; edge his ; heirs 1 2 3 4 ;");
        renew();
        parish(PLACE);
        cut(text -> claims(0, text), "point 1 2 his ; point 3 4 on ; h parish ; hayrick his ;");
        renew();
        parish(PLACE);
        cut(text -> walk(0, 0, text), "n 1 ; e 2 ; s 3 ; w 4 ;");
        renew();
        due("two ROWS", 2, paces("n 1;e 1;"));
        cut(text -> paces("n 1;e 1;" + text) + 8, "n 1 ; e 2 ; s 3 ; w 4 ;");

        about("PACES of fewer than two ROWS (at the end)");
        pacesFaulty(4, 0, "");
        pacesFaulty(4, 1, "\n");
        pacesFaulty(4, 300, blanks(300));
        pacesFaulty(4, 4, "n 1;");
        pacesFaulty(4, 6, "n 1; \n");
        pacesFaulty(1, 300, blanks(301));
        due("two", 2, paces("n 1;n 1;"));
    }

    private void firstAlongTheText() {
        about("FAULTS, the first along the text");
        faulty(1, 4, "law x;church 20 0;");
        faulty(2, 7, "church 20 0;law x;");
        faulty(3, 11, "church 1 0;church 20 0;law x;");
        faulty(2, 9, "church 1 20 0 x");
        faulty(3, 13, "line p 1 1 1 1;");
        faulty(4, 14, "line p 1 1 2 2;line p");
        parish(PLACE);
        claimsFaulty(2, 6, "point 21 21 on;x his;");
        claimsFaulty(3, 0, "x on;point 21 1 on;");
        walkFaulty(2, 2, "n 0;s 20;");
        walkFaulty(5, 0, "s 20;n 0;");
        walkFaulty(5, 0, "s 20 x");
        walkFaulty(2, 2, "s 21 x");
        pacesFaulty(2, 2, "n 0");
        pacesFaulty(1, 3, "n 1");
    }

    private void ofOneTokenTheLeast() {
        about("of one TOKEN the least");
        String twelve = "line p" + corners(12) + " ";
        faulty(1, twelve.length(), twelve + "x 1;");
        faulty(1, twelve.length(), twelve + "100 1;");
        faulty(2, twelve.length(), twelve + "21 1;");
        faulty(4, twelve.length(), twelve + "20 1;");
        faulty(4, twelve.length(), twelve + "20 21;");
        faulty(1, twelve.length() - 1, twelve.trim());
        parish(PLACE);
        String thirty = "h his;".repeat(30);
        claimsFaulty(1, 180, thirty + "on his;");
        claimsFaulty(1, 180, thirty + "5 his;");
        claimsFaulty(1, 180, thirty + ";");
        claimsFaulty(3, 180, thirty + "p his;");
        claimsFaulty(3, 180, thirty + "nobody his;");
        claimsFaulty(4, 180, thirty + "h his;");
        claimsFaulty(4, 180, thirty + "point");
        String paces = "w 9;".repeat(30);
        pacesFaulty(1, 120, paces + "x");
        pacesFaulty(1, 120, paces + "9");
        pacesFaulty(4, 120, paces + "n 0;");
        pacesFaulty(4, 121, paces + " n");
    }

    private void aParishStays() {
        about("-1 less the place of a FAULT: it stays");
        parish(PLACE + "church 5 6;law left;edge his;heirs 9 8 7 6;");
        hay.move(0, 0, 1, 1);
        String[] bad = {"x", "line q 0 0 5 0 5 5;hay z 1 1 1;church 1 1;law odd;edge parish;heirs 0 0 0 0;x",
            blanks(901), "line q 0 0 5 0 5 5;line q", "church 1 1;church", "heirs 1 1 1 10"};
        for (String text : bad) {
            due("FAULT of '" + text + "'", true, parish(text) < 0);
            int[] counts = {1, 2, 5, 6, 2, 1, 1, 0};
            for (int what = 0; what < 8; what++) {
                due("count " + what, counts[what], hay.count(what));
            }
            due("corner", 1, hay.corner(0, 0, 0));
            due("hay", 10, hay.hay(0, 0));
            due("heirs", 9, hay.heir(19, 19));
            due("heirs", 8, hay.heir(5, 5));
            due("names", 0, claims(0, "hayrick parish;h his;"));
        }
        due("it can be undone", 0, hay.undo());
        due("corner", 2, hay.corner(0, 0, 0));
    }

    private void faultsOfTheLatest() {
        about("The kind of the FAULT of the latest; 0 without one and ahead of any");
        due("ahead of any", 0, hay.fault());
        hay.claims(0);
        hay.walk(0, 0);
        due("-2000 leaves it", 0, hay.fault());
        parish("line p 1 1;");
        due("parish", 4, hay.fault());
        parish(PLACE);
        due("none", 0, hay.fault());
        claims(0, "z his;");
        due("claims", 3, hay.fault());
        due("-2000", -2000, claims(1, "z his;"));
        due("one of -2000 leaves it", 3, hay.fault());
        due("-2000", -2000, walk(0, 2, "x"));
        due("one of -2000 leaves it", 3, hay.fault());
        due("-2000", -2000, walk(1, 0, "n 1;"));
        due("one of -2000 leaves it", 3, hay.fault());
        byNight(0, 1, 1);
        rectangle(1);
        due("byNight(), rectangle() leave it", 3, hay.fault());
        claims(0, "h his;h parish;");
        due("a claim that is not so is no FAULT", 0, hay.fault());
        walk(0, 0, "n 20;");
        due("walk", 5, hay.fault());
        walk(0, 0, "n 1;");
        due("none", 0, hay.fault());
        paces("n 0;");
        due("paces", 2, hay.fault());
        paces("n 1;n 1;");
        due("none", 0, hay.fault());
        parish("x");
        due("parish", 1, hay.fault());
    }

    private void claimRows() {
        about("CLAIMS: 30 ROWS at most (X, Y 0 to 20)");
        parish(PLACE);
        due("no ROWS", 0, claims(0, ""));
        due("none is wrong", -1, hay.wrong());
        due("30", 30, claims(0, "h parish;".repeat(30)));
        due("30", 29, claims(0, "point 9 9 parish;" + "h parish;".repeat(29)));
        due("the first wrong", 1, hay.wrong());
        due("the last wrong", 1, claims(0, "h his;".repeat(29) + "h parish;"));
        due("ROW 29", 29, hay.wrong());
        claimsFaulty(4, 270, "h parish;".repeat(30) + "h parish;");
        due("corners of it all", 0, claims(0, "point 0 0 parish;point 20 20 parish;point 0 20 parish;point 20 0 parish;"));
        claimsFaulty(2, 6, "point 21 0 his;");
        claimsFaulty(2, 8, "point 0 21 his;");
        claimsFaulty(1, 6, "point 100 0 his;");
        claimsFaulty(1, 6, "point h his;");
        claimsFaulty(1, 10, "point 0 0 round;");
        claimsFaulty(1, 10, "point 0 0 0;");

        about("a point ON the LINE is 'on', and whose 'edge' tells");
        for (String edge : new String[] {"parish", "his"}) {
            parish(PLACE + "edge " + edge + ";");
            String other = edge.equals("his") ? "parish" : "his";
            due("on, and whose", 0, claims(0, "point 2 2 on;point 2 2 " + edge + ";point 8 5 on;point 8 5 " + edge + ";"));
            due("not the other's", 2, claims(0, "point 2 2 " + other + ";point 8 5 " + other + ";"));
            due("not on", 2, claims(0, "point 5 5 on;point 9 9 on;"));
        }

        about("a NAME not told or of a LINE where a HAY is asked (at it)");
        parish(PLACE);
        claimsFaulty(3, 0, "nobody his;");
        claimsFaulty(3, 0, "p his;");
        claimsFaulty(3, 7, "h his; hays");
        claimsFaulty(1, 2, "h on;");
        claimsFaulty(1, 2, "h h;");
        for (String word : WORDS) {
            if (!word.equals("point")) {
                claimsFaulty(1, 0, word + " his;");
            }
        }
    }

    private void walkRows() {
        about("A WALK: ( 'n' | 'e' | 's' | 'w' ) N (1 to 20)");
        parish("line p 0 0 5 0 5 5;hay h 0 0 1;hay k 19 19 1;");
        due("no ROWS", 0, walk(0, 0, ""));
        due("19 is the most that stays", 1, walk(0, 0, "e 19;"));
        due("X", 19, hay.walked(0));
        walkFaulty(5, 0, "e 20;");
        walkFaulty(2, 2, "e 0;");
        walkFaulty(2, 2, "e 21;");
        walkFaulty(2, 2, "e 99;");
        walkFaulty(1, 2, "e 100;");
        walkFaulty(1, 2, "e ;");
        due("1 is the least", true, walk(0, 0, "e 1;") >= 0 && hay.walked(0) == 1);
        for (String word : WORDS) {
            if ("nesw".indexOf(word) < 0) {
                walkFaulty(1, 0, word + " 1;");
            }
        }
        walkFaulty(1, 0, "ne 1;");
        walkFaulty(1, 0, "h 1;");
        due("as many ROWS as 300 bytes have", 0, walk(0, 0, "s 1;n 1;".repeat(37) + "s 1;"));
        due("STEPS", 75, hay.walked(2));
        due("the longest of 300 bytes", true, walk(0, 0, "e 19;w 19;".repeat(30)) >= 0);
        due("STEPS", 1140, hay.walked(2));
    }

    private void walkLeaves() {
        about("5 a ROW of a WALK leaves the SQUARES (at its first WORD, once N is read)");
        parish("line p 0 0 5 0 5 5;hay h 0 0 1;hay k 19 19 1;");
        walkFaulty(5, 0, "n 1;");
        walkFaulty(5, 0, "w 1;");
        walkFaulty(5, 0, "w 1");
        walkFaulty(5, 0, "w 1 1");
        walkFaulty(5, 5, "s 19;s 1;");
        walkFaulty(5, 5, "e 19;e 1;");
        walkFaulty(5, 6, "s 10; s 10;");
        walkFaulty(5, 3, "   n\n\n1;");
        walkFaulty(1, 1, "n");
        walkFaulty(1, 2, "n x");
        walkFaulty(1, 2, "n 1x;");
        walkFaulty(2, 2, "n 0;");
        String[] ways = {"s 1;", "e 1;", "s 20;", "e 20;"};
        for (String way : ways) {
            due("from the last SQUARE " + way, -1, walk(0, 1, way));
            due("fault", 5, hay.fault());
        }
        due("to the first SQUARE and back", true, walk(0, 1, "n 19;w 19;s 19;e 19;") >= 0);
    }

    private void paceRows() {
        about("PACES: N from 1 to 99, 2 to 30 ROWS");
        due("2", 2, paces("n 1;n 99;"));
        due("30", 30, paces("e 99;".repeat(30)));
        pacesFaulty(4, 150, "e 99;".repeat(31));
        pacesFaulty(4, 4, "e 9;");
        pacesFaulty(2, 2, "e 0;e 1;");
        pacesFaulty(2, 7, "e 1; e 00;");
        pacesFaulty(1, 2, "e 100;e 1;");
        for (String word : WORDS) {
            if ("nesw".indexOf(word) < 0) {
                pacesFaulty(1, 0, word + " 1;");
            }
        }
        about("PACES need no SQUARES: they may go anywhere");
        due("far", 2, paces("n 99;w 99;"));
        due("far west", -99, hay.paced(0));
    }

    private void theTapeIsEmptyThen() {
        about("The tape (empty then, here and below)");
        String[] texts = {"law odd;", "x", blanks(940)};
        for (String text : texts) {
            parish(text);
            due("parish", 0, hay.count(7));
            paces(text);
            due("paces", 0, hay.count(7));
            claims(0, text);
            due("claims without the LINE", 0, hay.count(7));
            walk(0, 0, text);
            due("walk without the LINE", 0, hay.count(7));
            byNight(0, 1, 5, 5, 1);
            due("byNight without the LINE", 0, hay.count(7));
        }
        for (String text : texts) {
            renew();
            parish(PLACE);
            claims(0, text);
            due("claims", 0, hay.count(7));
            walk(0, 0, text);
            due("walk", 0, hay.count(7));
            tell(text);
            hay.byNight(0, 1);
            due("byNight", 0, hay.count(7));
            tell(text);
            hay.rectangle();
            due("rectangle", 0, hay.count(7));
        }
        byNight(0, 1, 5, 5, 1);
        due("byNight", 0, hay.count(7));
        rectangle(5, 5, 1);
        due("rectangle", 0, hay.count(7));
        claims(0, "h his;");
        due("claims", 0, hay.count(7));
        walk(0, 0, "n 1;");
        due("walk", 0, hay.count(7));
        due("the same text is not there again", 0, hay.claims(0));
    }
}
