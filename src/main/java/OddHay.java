import java.util.Arrays;
import java.util.NoSuchElementException;

/** A parish in which closed lines tell whose the ground is; the document's promises say what each call does. */
public final class OddHay {
    public static final int NONE = -1;

    private static final int NO_SUCH = -2000;
    private static final int NOT_AS_TOLD = -2;
    private static final int NO_PACES = NONE - 1000;

    private static final int WIDE = 20;
    private static final int SQUARES = 400;
    private static final int LINES_MOST = 3;
    private static final int CORNERS_MOST = 12;
    private static final int HAYS_MOST = 10;
    private static final int ROWS_MOST = 30;
    private static final int TAPE_MOST = 940;
    private static final int PARISH_MOST = 900;
    private static final int TEXT_MOST = 300;

    private static final int NORTH = 0;
    private static final int EAST = 1;
    private static final int SOUTH = 2;
    private static final int WEST = 3;

    private static final int LAW_ODD = 0;
    private static final int LAW_ROUND = 1;

    /** Stands for ROUND of a point that is on the LINE; no ROUND comes near it. */
    private static final int ON = 1000;

    /** More than any walk or any set of STILES costs. */
    private static final int FAR_OFF = 100000000;

    /** The kinds of TOKENS. */
    private static final int END = 0;
    private static final int WORD = 1;
    private static final int NUMBER = 2;
    private static final int SEMICOLON = 3;
    private static final int NO_TOKEN = 4;

    /** The WORDS that are no NAMES, a blank behind each; their places are the numbers below, and NAME is the next. */
    private static final String WORDS =
        "n e s w odd round left parish his on line hay church law edge heirs point ";
    private static final int WORD_NORTH = 0;
    private static final int WORD_WEST = 3;
    private static final int WORD_ODD = 4;
    private static final int WORD_LEFT = 6;
    private static final int WORD_PARISH = 7;
    private static final int WORD_HIS = 8;
    private static final int WORD_ON = 9;
    private static final int WORD_LINE = 10;
    private static final int WORD_HAY = 11;
    private static final int WORD_CHURCH = 12;
    private static final int WORD_LAW = 13;
    private static final int WORD_EDGE = 14;
    private static final int WORD_HEIRS = 15;
    private static final int WORD_POINT = 16;
    private static final int NAME = 17;

    private final Reader reader = new Reader();
    private final Acts acts = new Acts();
    private final Ground ground = new Ground();
    private final Ground other = new Ground();
    private final Pieces landscape = new Pieces();
    private final Walker walker = new Walker();
    private final Pacer pacer = new Pacer();
    private final Points points = new Points();
    private final Night night = new Night(points);
    private final Line spare = new Line();
    private final int[] sides = {NONE, NONE, NONE, NONE};
    private final Parish[] images = {new Parish(), new Parish()};
    private final boolean[] imageKept = new boolean[2];
    private Parish now = new Parish();
    private Parish draft = new Parish();
    private int faultKind;
    private int firstWrong = NONE;

    public OddHay() {
    }

    public int feed(int a, int b, int c, int d, int e) {
        if (reader.length + 20 > TAPE_MOST) {
            return NONE;
        }
        reader.put(a);
        reader.put(b);
        reader.put(c);
        reader.put(d);
        reader.put(e);
        return reader.length;
    }

    public boolean end(int n) {
        if (n < 0 || n > reader.length) {
            return false;
        }
        reader.length = n;
        return true;
    }

    public int parish() {
        reader.begin(PARISH_MOST);
        int rows = draft.tell(reader);
        if (rows >= 0) {
            Parish old = now;
            now = draft;
            draft = old;
            acts.forget();
        }
        return closeText(rows);
    }

    public int fault() {
        return faultKind;
    }

    public int corner(int line, int i, int what) throws NoSuchElementException {
        if (!now.hasCorner(line, i) || what < 0 || what > 2) {
            throw new NoSuchElementException("no such corner");
        }
        Line told = now.lines[line];
        if (what == 0) {
            return told.x[i];
        }
        return what == 1 ? told.y[i] : told.bend(told.before(i), i, told.after(i));
    }

    public int hay(int h, int what) throws NoSuchElementException {
        if (!now.hasHay(h) || what < 0 || what > 2) {
            throw new NoSuchElementException("no such hay");
        }
        if (what == 0) {
            return now.hayX[h];
        }
        return what == 1 ? now.hayY[h] : now.hayLoads[h];
    }

    public int line(int line, int what) {
        if (!now.hasLine(line)) {
            return NONE;
        }
        Line told = now.lines[line];
        switch (what) {
            case 0:
                return told.corners;
            case 1:
                return told.twiceArea();
            case 2:
                return told.crossings();
            case 3:
                return told.touches();
            default:
                return NONE;
        }
    }

    public int whose(int line, int x, int y) {
        return now.hasLine(line) && isPoint(x, y) ? now.ownerOf(line, x, y) : NONE;
    }

    public int round(int line, int x, int y) throws NoSuchElementException {
        if (!now.hasLine(line) || !isPoint(x, y)) {
            throw new NoSuchElementException("no such line or point");
        }
        int times = now.lines[line].timesRound(x, y);
        if (times == ON) {
            throw new NoSuchElementException("the point is on the line");
        }
        return times;
    }

    public int square(int line, int x, int y) {
        if (!now.hasLine(line) || !isSquare(x, y)) {
            return NONE;
        }
        survey(line);
        return ground.his[squareAt(x, y)];
    }

    public int acres(int line) {
        if (!now.hasLine(line)) {
            return NONE;
        }
        survey(line);
        return ground.area();
    }

    public int border(int line) {
        if (!now.hasLine(line)) {
            return NONE;
        }
        survey(line);
        return ground.fences();
    }

    public int within(int a, int b) {
        if (!now.hasLine(a) || !now.hasLine(b)) {
            return NONE;
        }
        Line told = now.lines[a];
        int inside = 0;
        for (int i = 0; i < told.corners; i++) {
            inside += now.ownerOf(b, told.x[i], told.y[i]) & 1;
        }
        return inside;
    }

    public int claims(int line) {
        if (!now.hasLine(line)) {
            reader.length = 0;
            return NO_SUCH;
        }
        survey(line);
        reader.begin(TEXT_MOST);
        return closeText(hearClaims(line));
    }

    public int wrong() {
        return firstWrong;
    }

    public int loads(int line, int whose) {
        if (!now.hasLine(line) || whose < 0 || whose > 1) {
            return NONE;
        }
        survey(line);
        int sum = 0;
        for (int h = 0; h < now.hayCount; h++) {
            if (ground.his[now.haySquare(h)] == whose) {
                sum += now.hayLoads[h];
            }
        }
        return sum;
    }

    public int heir(int x, int y) {
        if (!isSquare(x, y)) {
            return NONE;
        }
        surveyForHeirs();
        return heirOf(squareAt(x, y));
    }

    public int estate(int heir) {
        if (heir < 0 || heir > 9) {
            return NONE;
        }
        surveyForHeirs();
        int has = 0;
        for (int s = 0; s < SQUARES; s++) {
            if (heirOf(s) == heir) {
                has++;
            }
        }
        return has;
    }

    public int pieces(int line) {
        if (!now.hasLine(line)) {
            return NONE;
        }
        surveyPieces(line);
        return landscape.count;
    }

    public int piece(int line, int p, int what) {
        if (!now.hasLine(line)) {
            return NONE;
        }
        surveyPieces(line);
        if (p < 0 || p >= landscape.count) {
            return NONE;
        }
        int first = landscape.firstOf(p);
        switch (what) {
            case 0:
                return landscape.sizeOf(p);
            case 1:
                return ground.his[first];
            case 2:
                return first % WIDE;
            case 3:
                return first / WIDE;
            case 4:
                return landscape.neighboursOf(p);
            default:
                return NONE;
        }
    }

    public int pieceAt(int line, int x, int y) {
        if (!now.hasLine(line) || !isSquare(x, y)) {
            return NONE;
        }
        surveyPieces(line);
        return landscape.pieceOf[squareAt(x, y)];
    }

    public int crosses(int line, int x, int y, int direction) {
        if (!now.hasLine(line) || !isSquare(x, y)) {
            return NONE;
        }
        survey(line);
        return ground.crossed(squareAt(x, y), direction);
    }

    public int walk(int line, int hay) {
        if (!now.hasLine(line) || !now.hasHay(hay)) {
            reader.length = 0;
            return NO_SUCH;
        }
        survey(line);
        reader.begin(TEXT_MOST);
        return closeText(walker.follow(reader, ground, now.haySquare(hay)));
    }

    public int walked(int what) {
        return what >= 0 && what < 3 ? walker.told[what] : NONE;
    }

    public int least(int line, int hay, int what) {
        if (!now.hasLine(line) || !now.hasHay(hay) || what < 0 || what > 1) {
            return NONE;
        }
        survey(line);
        int price = walker.cheapest(ground, now.haySquare(hay), now.churchSquare());
        return what == 0 ? price / Walker.CROSSING : price % Walker.CROSSING;
    }

    public int stiles(int line) {
        if (!now.hasLine(line) || now.hayCount > Pieces.ENDS_MOST) {
            return NONE;
        }
        surveyPieces(line);
        landscape.beginOpenings(now.churchSquare());
        for (int h = 0; h < now.hayCount; h++) {
            landscape.addEnd(now.haySquare(h));
        }
        return landscape.fewestOpenings();
    }

    public boolean move(int line, int i, int x, int y) {
        if (!canMove(line, i, x, y)) {
            return false;
        }
        acts.keep(now);
        now.put(line, i, x, y);
        return true;
    }

    public boolean shift(int line, int dx, int dy) {
        if (!now.hasLine(line) || dx == 0 && dy == 0 || !now.lines[line].staysBy(dx, dy)) {
            return false;
        }
        acts.keep(now);
        Line told = now.lines[line];
        for (int i = 0; i < told.corners; i++) {
            now.put(line, i, told.x[i] + dx, told.y[i] + dy);
        }
        return true;
    }

    public int moved(int line, int i, int x, int y, int what) {
        if (what < 0 || what > 1 || !canMove(line, i, x, y)) {
            return NONE;
        }
        survey(line);
        spare.copyFrom(now.lines[line]);
        spare.x[i] = x;
        spare.y[i] = y;
        other.survey(spare, now.law, now.edge);
        int changed = 0;
        for (int s = 0; s < SQUARES; s++) {
            if (ground.his[s] == what && other.his[s] != what) {
                changed++;
            }
        }
        return changed;
    }

    public int nights(int n, int seed) {
        if (n < 1 || n > 200 || now.lineCount < 1) {
            return NONE;
        }
        acts.keep(now);
        return now.passNights(n, seed);
    }

    public int undo() {
        return acts.takeBack(now);
    }

    public int byNight(int line, int r) {
        boolean asTold = points.take(reader);
        reader.length = 0;
        if (!asTold || !now.hasLine(line) || r < 1 || r > Night.REACH_MOST) {
            return NOT_AS_TOLD;
        }
        points.law = now.law;
        points.edge = now.edge;
        return night.search(now.lines[line], r);
    }

    public int ways() {
        return night.ways;
    }

    public int way(int k, int what) {
        if (k < 0 || k > 1 || k >= night.fewest || what < 0 || what > 2) {
            return NONE;
        }
        return night.first[k * 3 + what];
    }

    public int rectangle() {
        boolean asTold = points.take(reader);
        reader.length = 0;
        if (!asTold) {
            return NOT_AS_TOLD;
        }
        points.edge = now.edge;
        for (int sum = 2; sum <= 2 * WIDE; sum++) {
            if (findRectangle(sum)) {
                return sum;
            }
        }
        return NONE;
    }

    public int side(int what) {
        return what >= 0 && what < 4 ? sides[what] : NONE;
    }

    public int paces() {
        reader.begin(TEXT_MOST);
        return closeText(pacer.follow(reader));
    }

    public int paced(int what) {
        return what >= 0 && what < 4 ? pacer.told[what] : NO_PACES;
    }

    public boolean image(int k) {
        if (k < 0 || k > 1) {
            return false;
        }
        images[k].copyFrom(now);
        imageKept[k] = true;
        return true;
    }

    public boolean restore(int k) {
        if (k < 0 || k > 1 || !imageKept[k]) {
            return false;
        }
        now.copyFrom(images[k]);
        acts.forget();
        return true;
    }

    public int count(int what) {
        switch (what) {
            case 0:
                return now.lineCount;
            case 1:
                return now.hayCount;
            case 2:
                return now.churchX;
            case 3:
                return now.churchY;
            case 4:
                return now.law;
            case 5:
                return now.edge;
            case 6:
                return now.movedCorners;
            case 7:
                return reader.length;
            default:
                return NONE;
        }
    }

    /** What a call that read the tape as a text answers; the tape is empty then. */
    private int closeText(int answer) {
        faultKind = reader.faultKind;
        reader.length = 0;
        return faultKind == 0 ? answer : -1 - reader.faultPlace;
    }

    private void survey(int line) {
        ground.survey(now.lines[line], now.law, now.edge);
    }

    private void surveyPieces(int line) {
        survey(line);
        landscape.find(ground);
    }

    /** LINE 0 on the one ground, LINE 1 on the other; a LINE without corners stands for one that is not told. */
    private void surveyForHeirs() {
        spare.corners = 0;
        ground.survey(now.hasLine(0) ? now.lines[0] : spare, now.law, now.edge);
        other.survey(now.hasLine(1) ? now.lines[1] : spare, now.law, now.edge);
    }

    private int heirOf(int square) {
        return now.heirs[ground.his[square] + 2 * other.his[square]];
    }

    private boolean canMove(int line, int i, int x, int y) {
        return now.hasCorner(line, i) && isPoint(x, y) && !now.lines[line].isAt(i, x, y)
            && now.lines[line].mayStandAt(i, x, y);
    }

    /** How many CLAIMS of the tape are not so; without a meaning, once the reader has a FAULT. */
    private int hearClaims(int line) {
        int wrongs = 0;
        int first = NONE;
        for (int row = 0; row <= TEXT_MOST; row++) {
            if (reader.isAtEnd()) {
                if (reader.closes()) {
                    firstWrong = first;
                }
                return wrongs;
            }
            boolean so = reader.isWord(WORD_POINT, WORD_POINT) ? hearPoint(line, row) : hearHay(row);
            if (reader.faultKind != 0 || !reader.readSemicolon()) {
                return NONE;
            }
            if (!so) {
                wrongs++;
                first = first == NONE ? row : first;
            }
        }
        return NONE;
    }

    private boolean hearPoint(int line, int row) {
        if (row >= ROWS_MOST) {
            return reader.fail(4);
        }
        if (!reader.readNumber(0, WIDE)) {
            return false;
        }
        int x = reader.value;
        if (!reader.readNumber(0, WIDE)) {
            return false;
        }
        int owner = now.ownerOf(line, x, reader.value);
        if (!reader.readWord(WORD_PARISH, WORD_ON)) {
            return false;
        }
        return reader.word == WORD_ON ? owner >= 2 : (owner & 1) == reader.word - WORD_PARISH;
    }

    private boolean hearHay(int row) {
        if (!reader.isWord(NAME, NAME)) {
            return reader.fail(1);
        }
        int h = now.hayNamed(reader.letters);
        if (!now.hasHay(h)) {
            return reader.fail(3);
        }
        if (row >= ROWS_MOST) {
            return reader.fail(4);
        }
        return reader.readWord(WORD_PARISH, WORD_HIS)
            && ground.his[now.haySquare(h)] == reader.word - WORD_PARISH;
    }

    /** Is there a RECTANGLE whose two sides are so long together? The first one is kept. */
    private boolean findRectangle(int sum) {
        for (int x1 = 0; x1 < WIDE; x1++) {
            for (int y1 = 0; y1 < WIDE; y1++) {
                int narrowest = Math.max(1, y1 + sum - WIDE);
                int widest = Math.min(sum - 1, WIDE - x1);
                for (int wide = narrowest; wide <= widest; wide++) {
                    if (points.fitRectangle(x1, y1, x1 + wide, y1 + sum - wide)) {
                        sides[0] = x1;
                        sides[1] = y1;
                        sides[2] = x1 + wide;
                        sides[3] = y1 + sum - wide;
                        return true;
                    }
                }
            }
        }
        return false;
    }

    private static boolean isPoint(int x, int y) {
        return x >= 0 && x <= WIDE && y >= 0 && y <= WIDE;
    }

    private static boolean isSquare(int x, int y) {
        return x >= 0 && x < WIDE && y >= 0 && y < WIDE;
    }

    private static int squareAt(int x, int y) {
        return y * WIDE + x;
    }

    /** The SQUARE that a STEP comes to; NONE, if it leaves the SQUARES or there is no such direction. */
    private static int stepFrom(int square, int direction) {
        switch (direction) {
            case NORTH:
                return square >= WIDE ? square - WIDE : NONE;
            case EAST:
                return square % WIDE < WIDE - 1 ? square + 1 : NONE;
            case SOUTH:
                return square < SQUARES - WIDE ? square + WIDE : NONE;
            case WEST:
                return square % WIDE > 0 ? square - 1 : NONE;
            default:
                return NONE;
        }
    }

    /** ROUND tells by odd, too: each EDGE that is crossed counts 1 or -1 in it, so both are odd together. */
    private static boolean isHis(int law, int times) {
        if (law == LAW_ODD) {
            return (times & 1) != 0;
        }
        return law == LAW_ROUND ? times != 0 : times > 0;
    }

    /** What the EDGE from X1 Y1 to X2 Y2 adds to ROUND of a point; ON, if the point is on it. */
    private static int passes(int x1, int y1, int x2, int y2, int x, int y) {
        int turn = (x2 - x1) * (y - y1) - (y2 - y1) * (x - x1);
        if (turn == 0 && (x1 - x) * (x2 - x) <= 0 && (y1 - y) * (y2 - y) <= 0) {
            return ON;
        }
        if (y1 <= y && y < y2) {
            return turn > 0 ? 1 : 0;
        }
        if (y2 <= y && y < y1) {
            return turn < 0 ? -1 : 0;
        }
        return 0;
    }

    /** The tape, and the TOKENS and the first FAULT of a text on it. */
    private static final class Reader {
        final int[] bytes = new int[TAPE_MOST];
        int length;
        int faultKind;
        int faultPlace;
        int kind;
        int start;
        int word;
        int value;
        long letters;
        private int most;
        private int at;

        void put(int number) {
            for (int shift = 24; shift >= 0 && length < TAPE_MOST; shift -= 8) {
                bytes[length] = number >>> shift & 255;
                length++;
            }
        }

        void begin(int mostBytes) {
            most = mostBytes;
            at = 0;
            faultKind = 0;
            faultPlace = 0;
        }

        void advance() {
            int stop = Math.min(length, most);
            while (at < stop && (bytes[at] == ' ' || bytes[at] == '\n')) {
                at++;
            }
            if (at >= stop) {
                start = stop;
                kind = END;
                return;
            }
            start = at;
            if (bytes[at] == ';') {
                at++;
                kind = SEMICOLON;
                return;
            }
            readRun();
            if (kind == WORD) {
                word = wordOf(letters);
            }
        }

        /** A run that begins ahead of the most bytes is read whole: the tape's length alone bounds it. */
        private void readRun() {
            int small = 0;
            int digits = 0;
            letters = 0;
            value = 0;
            for (; at < length; at++) {
                int sign = bytes[at];
                if (sign >= 'a' && sign <= 'z') {
                    small++;
                    letters = letters << 8 | sign;
                } else if (sign >= '0' && sign <= '9') {
                    digits++;
                    value = value * 10 + sign - '0';
                } else {
                    break;
                }
            }
            kind = NO_TOKEN;
            if (digits == 0 && small >= 1 && small <= 7) {
                kind = WORD;
            } else if (small == 0 && digits >= 1 && digits <= 2) {
                kind = NUMBER;
            }
        }

        boolean isWord(int firstWord, int lastWord) {
            return kind == WORD && firstWord <= word && word <= lastWord;
        }

        /** Reads on: is it the end, where a ROW could begin? */
        boolean isAtEnd() {
            advance();
            return kind == END;
        }

        /** At the end behind a ROW: has the text no more bytes than it may have? */
        boolean closes() {
            return length <= most || fail(1);
        }

        boolean readNumber(int lowest, int highest) {
            advance();
            if (kind != NUMBER) {
                return fail(1);
            }
            return value >= lowest && value <= highest || fail(2);
        }

        boolean readWord(int firstWord, int lastWord) {
            advance();
            return isWord(firstWord, lastWord) || fail(1);
        }

        boolean readSemicolon() {
            advance();
            return kind == SEMICOLON || fail(1);
        }

        /** A FAULT at the latest TOKEN; false, so that a reading method can end by it. */
        boolean fail(int fault) {
            return failAt(fault, start);
        }

        boolean failAt(int fault, int place) {
            faultKind = fault;
            faultPlace = place;
            return false;
        }

        private static int wordOf(long letters) {
            long known = 0;
            int place = 0;
            for (int i = 0; i < WORDS.length(); i++) {
                char sign = WORDS.charAt(i);
                if (sign != ' ') {
                    known = known << 8 | sign;
                } else if (known == letters) {
                    return place;
                } else {
                    known = 0;
                    place++;
                }
            }
            return NAME;
        }
    }

    /** A closed LINE by its corners. */
    private static final class Line {
        long name;
        int corners;
        final int[] x = new int[CORNERS_MOST];
        final int[] y = new int[CORNERS_MOST];

        void copyFrom(Line told) {
            name = told.name;
            corners = told.corners;
            System.arraycopy(told.x, 0, x, 0, CORNERS_MOST);
            System.arraycopy(told.y, 0, y, 0, CORNERS_MOST);
        }

        int after(int i) {
            return i + 1 < corners ? i + 1 : 0;
        }

        int before(int i) {
            return i > 0 ? i - 1 : corners - 1;
        }

        boolean isAt(int i, int px, int py) {
            return x[i] == px && y[i] == py;
        }

        /** One corner more; false, if there is no room for it. */
        boolean add(int px, int py) {
            if (corners >= CORNERS_MOST) {
                return false;
            }
            x[corners] = px;
            y[corners] = py;
            corners++;
            return true;
        }

        /** Would corner i be unlike its neighbours there? */
        boolean mayStandAt(int i, int px, int py) {
            return !isAt(before(i), px, py) && !isAt(after(i), px, py);
        }

        boolean staysBy(int dx, int dy) {
            if (dx < -WIDE || dx > WIDE || dy < -WIDE || dy > WIDE) {
                return false;
            }
            for (int i = 0; i < corners; i++) {
                if (!isPoint(x[i] + dx, y[i] + dy)) {
                    return false;
                }
            }
            return true;
        }

        /** How the way over three corners turns: 1, -1, or 0 on one straight. */
        int bend(int i, int j, int k) {
            return Integer.compare((x[j] - x[i]) * (y[k] - y[j]), (y[j] - y[i]) * (x[k] - x[j]));
        }

        int twiceArea() {
            int sum = 0;
            for (int i = 0; i < corners; i++) {
                int j = after(i);
                sum += x[i] * y[j] - x[j] * y[i];
            }
            return sum;
        }

        int crossings() {
            int pairs = 0;
            for (int i = 0; i < corners; i++) {
                for (int j = i + 1; j < corners; j++) {
                    if (crossWithin(i, j)) {
                        pairs++;
                    }
                }
            }
            return pairs;
        }

        int touches() {
            int pairs = 0;
            for (int i = 0; i < corners; i++) {
                for (int j = i + 1; j < corners; j++) {
                    if (after(i) != j && after(j) != i && endsMeet(i, j)) {
                        pairs++;
                    }
                }
            }
            return pairs;
        }

        private boolean crossWithin(int i, int j) {
            int m = after(i);
            int n = after(j);
            return bend(i, m, j) * bend(i, m, n) < 0 && bend(j, n, i) * bend(j, n, m) < 0;
        }

        /** EDGES that meet and do not cross within both have an end of one on the other. */
        private boolean endsMeet(int i, int j) {
            int m = after(i);
            int n = after(j);
            return passesBy(i, x[j], y[j]) == ON || passesBy(i, x[n], y[n]) == ON
                || passesBy(j, x[i], y[i]) == ON || passesBy(j, x[m], y[m]) == ON;
        }

        private int passesBy(int edge, int px, int py) {
            int next = after(edge);
            return passes(x[edge], y[edge], x[next], y[next], px, py);
        }

        /** ROUND of a point; ON, if it is on the LINE. */
        int timesRound(int px, int py) {
            int sum = 0;
            for (int i = 0; i < corners; i++) {
                int pass = passesBy(i, px, py);
                if (pass == ON) {
                    return ON;
                }
                sum += pass;
            }
            return sum;
        }
    }

    /** All that a PARISH tells, and how many corners were MOVED since it was told. */
    private static final class Parish {
        private static final int CHURCH = 1;
        private static final int LAW = 2;
        private static final int EDGE = 4;
        private static final int HEIRS = 8;

        final Line[] lines = {new Line(), new Line(), new Line()};
        final int[] hayX = new int[HAYS_MOST];
        final int[] hayY = new int[HAYS_MOST];
        final int[] hayLoads = new int[HAYS_MOST];
        final long[] hayNames = new long[HAYS_MOST];
        final int[] heirs = {0, 1, 2, 3};
        int lineCount;
        int hayCount;
        int churchX;
        int churchY;
        int law;
        int edge;
        int movedCorners;
        private int toldOnce;
        private int seed;

        boolean hasLine(int line) {
            return line >= 0 && line < lineCount;
        }

        boolean hasCorner(int line, int i) {
            return hasLine(line) && i >= 0 && i < lines[line].corners;
        }

        boolean hasHay(int h) {
            return h >= 0 && h < hayCount;
        }

        int haySquare(int h) {
            return squareAt(hayX[h], hayY[h]);
        }

        int churchSquare() {
            return squareAt(churchX, churchY);
        }

        /** Whose a point is by a LINE: 1 HIS, 0 not; 2 more, if it is on it. */
        int ownerOf(int line, int px, int py) {
            int times = lines[line].timesRound(px, py);
            if (times == ON) {
                return 2 + edge;
            }
            return isHis(law, times) ? 1 : 0;
        }

        void put(int line, int i, int px, int py) {
            lines[line].x[i] = px;
            lines[line].y[i] = py;
            movedCorners++;
        }

        int passNights(int n, int firstSeed) {
            int before = movedCorners;
            seed = firstSeed;
            for (int k = 0; k < n; k++) {
                int line = draw(lineCount);
                int i = draw(lines[line].corners);
                int way = draw(4);
                int px = lines[line].x[i] + (way == EAST ? 1 : 0) - (way == WEST ? 1 : 0);
                int py = lines[line].y[i] + (way == SOUTH ? 1 : 0) - (way == NORTH ? 1 : 0);
                if (isPoint(px, py) && lines[line].mayStandAt(i, px, py)) {
                    put(line, i, px, py);
                }
            }
            return movedCorners - before;
        }

        private int draw(int n) {
            seed = seed * 1103515245 + 12345;
            return n > 0 ? (seed >>> 8) % n : 0;
        }

        void copyFrom(Parish told) {
            for (int line = 0; line < LINES_MOST; line++) {
                lines[line].copyFrom(told.lines[line]);
            }
            System.arraycopy(told.hayX, 0, hayX, 0, HAYS_MOST);
            System.arraycopy(told.hayY, 0, hayY, 0, HAYS_MOST);
            System.arraycopy(told.hayLoads, 0, hayLoads, 0, HAYS_MOST);
            System.arraycopy(told.hayNames, 0, hayNames, 0, HAYS_MOST);
            System.arraycopy(told.heirs, 0, heirs, 0, 4);
            lineCount = told.lineCount;
            hayCount = told.hayCount;
            churchX = told.churchX;
            churchY = told.churchY;
            law = told.law;
            edge = told.edge;
            movedCorners = told.movedCorners;
        }

        private void clear() {
            for (int k = 0; k < 4; k++) {
                heirs[k] = k;
            }
            lineCount = 0;
            hayCount = 0;
            churchX = 0;
            churchY = 0;
            law = LAW_ODD;
            edge = 0;
            movedCorners = 0;
            toldOnce = 0;
        }

        /** Becomes what the text tells: how many ROWS; NONE at a FAULT. */
        int tell(Reader text) {
            clear();
            for (int rows = 0; rows <= PARISH_MOST; rows++) {
                if (text.isAtEnd()) {
                    return text.closes() ? rows : NONE;
                }
                if (!tellRow(text)) {
                    return NONE;
                }
            }
            return NONE;
        }

        private boolean tellRow(Reader text) {
            if (!text.isWord(WORD_LINE, WORD_HEIRS)) {
                return text.fail(1);
            }
            switch (text.word) {
                case WORD_LINE:
                    return tellLine(text);
                case WORD_HAY:
                    return tellHay(text);
                case WORD_CHURCH:
                    return tellChurch(text);
                case WORD_LAW:
                    return tellLaw(text);
                case WORD_EDGE:
                    return tellEdge(text);
                default:
                    return tellHeirs(text);
            }
        }

        private boolean tellLine(Reader text) {
            if (lineCount >= LINES_MOST) {
                return text.fail(4);
            }
            if (!tellName(text)) {
                return false;
            }
            Line line = lines[lineCount];
            line.name = text.letters;
            line.corners = 0;
            for (int k = 0; k <= CORNERS_MOST; k++) {
                text.advance();
                if (text.kind == SEMICOLON) {
                    return closeLine(text, line);
                }
                int px = text.value;
                if (!beginsCorner(text, line) || !text.readNumber(0, WIDE) || !endsCorner(text, line, px)) {
                    return false;
                }
            }
            return false;
        }

        private static boolean beginsCorner(Reader text, Line line) {
            if (text.kind != NUMBER) {
                return text.fail(1);
            }
            if (text.value > WIDE) {
                return text.fail(2);
            }
            return line.corners < CORNERS_MOST || text.fail(4);
        }

        private static boolean endsCorner(Reader text, Line line, int px) {
            int i = line.corners;
            if (i > 0 && line.isAt(i - 1, px, text.value)) {
                return text.fail(3);
            }
            return line.add(px, text.value);
        }

        private boolean closeLine(Reader text, Line line) {
            if (line.corners == 0) {
                return text.fail(1);
            }
            if (line.corners < 3) {
                return text.fail(4);
            }
            if (line.isAt(line.corners - 1, line.x[0], line.y[0])) {
                return text.fail(3);
            }
            lineCount++;
            return true;
        }

        private boolean tellHay(Reader text) {
            int h = hayCount;
            if (h >= HAYS_MOST) {
                return text.fail(4);
            }
            if (!tellName(text)) {
                return false;
            }
            hayNames[h] = text.letters;
            if (!text.readNumber(0, WIDE - 1)) {
                return false;
            }
            hayX[h] = text.value;
            if (!text.readNumber(0, WIDE - 1)) {
                return false;
            }
            hayY[h] = text.value;
            if (!text.readNumber(0, 99)) {
                return false;
            }
            hayLoads[h] = text.value;
            hayCount++;
            return text.readSemicolon();
        }

        private boolean tellChurch(Reader text) {
            if (!tellsFirst(text, CHURCH) || !text.readNumber(0, WIDE - 1)) {
                return false;
            }
            churchX = text.value;
            if (!text.readNumber(0, WIDE - 1)) {
                return false;
            }
            churchY = text.value;
            return text.readSemicolon();
        }

        private boolean tellLaw(Reader text) {
            if (!tellsFirst(text, LAW) || !text.readWord(WORD_ODD, WORD_LEFT)) {
                return false;
            }
            law = text.word - WORD_ODD;
            return text.readSemicolon();
        }

        private boolean tellEdge(Reader text) {
            if (!tellsFirst(text, EDGE) || !text.readWord(WORD_PARISH, WORD_HIS)) {
                return false;
            }
            edge = text.word - WORD_PARISH;
            return text.readSemicolon();
        }

        private boolean tellHeirs(Reader text) {
            if (!tellsFirst(text, HEIRS)) {
                return false;
            }
            for (int k = 0; k < 4; k++) {
                if (!text.readNumber(0, 9)) {
                    return false;
                }
                heirs[k] = text.value;
            }
            return text.readSemicolon();
        }

        private boolean tellsFirst(Reader text, int what) {
            if ((toldOnce & what) != 0) {
                return text.fail(3);
            }
            toldOnce |= what;
            return true;
        }

        private boolean tellName(Reader text) {
            text.advance();
            if (!text.isWord(NAME, NAME)) {
                return text.fail(1);
            }
            return !isLineNamed(text.letters) && hayNamed(text.letters) == NONE || text.fail(3);
        }

        private boolean isLineNamed(long name) {
            for (int line = 0; line < lineCount; line++) {
                if (lines[line].name == name) {
                    return true;
                }
            }
            return false;
        }

        int hayNamed(long name) {
            for (int h = 0; h < hayCount; h++) {
                if (hayNames[h] == name) {
                    return h;
                }
            }
            return NONE;
        }
    }

    /** The latest acts that can be undone: for each the corners as they were ahead of it. */
    private static final class Acts {
        private static final int MOST = 8;
        private static final int LINE_SIZE = 2 * CORNERS_MOST;
        private static final int SIZE = LINES_MOST * LINE_SIZE + 1;

        private final int[] kept = new int[MOST * SIZE];
        private int count;

        void forget() {
            count = 0;
        }

        void keep(Parish parish) {
            if (count >= MOST) {
                System.arraycopy(kept, SIZE, kept, 0, (MOST - 1) * SIZE);
                count = MOST - 1;
            }
            int at = count * SIZE;
            kept[at] = parish.movedCorners;
            for (int line = 0; line < LINES_MOST; line++) {
                int from = at + 1 + line * LINE_SIZE;
                System.arraycopy(parish.lines[line].x, 0, kept, from, CORNERS_MOST);
                System.arraycopy(parish.lines[line].y, 0, kept, from + CORNERS_MOST, CORNERS_MOST);
            }
            count++;
        }

        int takeBack(Parish parish) {
            if (count < 1) {
                return NONE;
            }
            count--;
            int at = count * SIZE;
            parish.movedCorners = kept[at];
            for (int line = 0; line < LINES_MOST; line++) {
                int from = at + 1 + line * LINE_SIZE;
                System.arraycopy(kept, from, parish.lines[line].x, 0, CORNERS_MOST);
                System.arraycopy(kept, from + CORNERS_MOST, parish.lines[line].y, 0, CORNERS_MOST);
            }
            return count;
        }
    }

    /** The SQUARES by one LINE: which are HIS, and how often it is crossed between them. */
    private static final class Ground {
        final int[] his = new int[SQUARES];
        private final int[] east = new int[SQUARES];
        private final int[] south = new int[SQUARES];
        private final int[] turns = new int[SQUARES];
        private final int[] on = new int[SQUARES];

        void survey(Line line, int law, int edge) {
            Arrays.fill(east, 0);
            Arrays.fill(south, 0);
            Arrays.fill(turns, 0);
            Arrays.fill(on, 0);
            for (int i = 0; i < line.corners; i++) {
                int j = line.after(i);
                if (line.y[i] < line.y[j]) {
                    crossRows(line, i, j, 1);
                } else {
                    crossRows(line, j, i, -1);
                }
                if (line.x[i] < line.x[j]) {
                    crossColumns(line, i, j);
                } else {
                    crossColumns(line, j, i);
                }
            }
            for (int row = 0; row < WIDE; row++) {
                ownRow(row * WIDE, law, edge);
            }
        }

        /** An EDGE, its upper end told first, at the middles of all rows that it goes through. */
        private void crossRows(Line line, int upper, int lower, int turn) {
            int top = line.y[upper];
            int high = line.y[lower] - top;
            for (int k = 0; k < high; k++) {
                int along = (2 * k + 1) * (line.x[lower] - line.x[upper]) - high;
                int column = line.x[upper] + Math.floorDiv(along - 1, 2 * high);
                int square = squareAt(column, top + k);
                if (column >= 0 && column < WIDE) {
                    east[square]++;
                    turns[square] += turn;
                }
                if (column + 1 >= 0 && column + 1 < WIDE && Math.floorMod(along, 2 * high) == 0) {
                    on[square + 1] = 1;
                }
            }
        }

        /** An EDGE, its western end told first, at the middles of all columns that it goes through. */
        private void crossColumns(Line line, int western, int eastern) {
            int left = line.x[western];
            int wide = line.x[eastern] - left;
            for (int k = 0; k < wide; k++) {
                int along = (2 * k + 1) * (line.y[eastern] - line.y[western]) - wide;
                int row = line.y[western] + Math.floorDiv(along - 1, 2 * wide);
                if (row >= 0 && row < WIDE) {
                    south[squareAt(left + k, row)]++;
                }
            }
        }

        /** From the east on, as ROUND looks that way. */
        private void ownRow(int start, int law, int edge) {
            int times = 0;
            for (int s = start + WIDE - 1; s >= start; s--) {
                times += turns[s];
                if (on[s] != 0) {
                    his[s] = edge;
                } else {
                    his[s] = isHis(law, times) ? 1 : 0;
                }
            }
        }

        int area() {
            int sum = 0;
            for (int s = 0; s < SQUARES; s++) {
                sum += his[s];
            }
            return sum;
        }

        int fences() {
            int sides = 0;
            for (int s = 0; s < SQUARES; s++) {
                for (int direction = NORTH; direction <= WEST && his[s] != 0; direction++) {
                    int next = stepFrom(s, direction);
                    if (next < 0 || his[next] == 0) {
                        sides++;
                    }
                }
            }
            return sides;
        }

        /** How often a STEP crosses the LINE; NONE, if it leaves the SQUARES. */
        int crossed(int square, int direction) {
            int next = stepFrom(square, direction);
            if (next < 0) {
                return NONE;
            }
            int first = Math.min(square, next);
            return direction == EAST || direction == WEST ? east[first] : south[first];
        }
    }

    /** PIECES, who is BESIDE whom, and the fewest openings between them. */
    private static final class Pieces {
        static final int ENDS_MOST = 6;
        private static final int SETS = 64;
        private static final int BESIDE_MOST = 4 * SQUARES;

        int count;
        final int[] pieceOf = new int[SQUARES];
        private final int[] squares = new int[SQUARES];
        private final int[] start = new int[SQUARES + 1];
        private final int[] beside = new int[BESIDE_MOST];
        private final int[] besideStart = new int[SQUARES + 1];
        private final int[] seenFrom = new int[SQUARES];
        private final int[] ends = new int[ENDS_MOST];
        private int endCount;
        private int goal;
        private final int[] cost = new int[SETS * SQUARES];

        int firstOf(int p) {
            return squares[start[p]];
        }

        int sizeOf(int p) {
            return start[p + 1] - start[p];
        }

        int neighboursOf(int p) {
            return besideStart[p + 1] - besideStart[p];
        }

        void find(Ground ground) {
            Arrays.fill(pieceOf, NONE);
            count = 0;
            int filled = 0;
            for (int s = 0; s < SQUARES; s++) {
                if (pieceOf[s] == NONE) {
                    start[count] = filled;
                    filled = flood(ground.his, s, filled);
                    count++;
                }
            }
            start[count] = filled;
            findBeside();
        }

        /** All SQUARES of the PIECE of a SQUARE come behind those told so far; how many there are then. */
        private int flood(int[] his, int first, int from) {
            int filled = from;
            pieceOf[first] = count;
            squares[filled] = first;
            filled++;
            for (int k = from; k < filled; k++) {
                for (int direction = NORTH; direction <= WEST; direction++) {
                    int next = stepFrom(squares[k], direction);
                    if (next >= 0 && pieceOf[next] == NONE && his[next] == his[first] && filled < SQUARES) {
                        pieceOf[next] = count;
                        squares[filled] = next;
                        filled++;
                    }
                }
            }
            return filled;
        }

        private void findBeside() {
            Arrays.fill(seenFrom, NONE);
            int listed = 0;
            for (int p = 0; p < count; p++) {
                besideStart[p] = listed;
                for (int k = start[p]; k < start[p + 1]; k++) {
                    listed = listBeside(p, squares[k], listed);
                }
            }
            besideStart[count] = listed;
        }

        private int listBeside(int p, int square, int from) {
            int listed = from;
            for (int direction = NORTH; direction <= WEST; direction++) {
                int next = stepFrom(square, direction);
                int q = next < 0 ? p : pieceOf[next];
                if (q != p && seenFrom[q] != p && listed < BESIDE_MOST) {
                    seenFrom[q] = p;
                    beside[listed] = q;
                    listed++;
                }
            }
            return listed;
        }

        void beginOpenings(int goalSquare) {
            goal = pieceOf[goalSquare];
            endCount = 0;
        }

        void addEnd(int square) {
            int p = pieceOf[square];
            boolean known = p == goal;
            for (int k = 0; k < endCount; k++) {
                known = known || ends[k] == p;
            }
            if (!known && endCount < ENDS_MOST) {
                ends[endCount] = p;
                endCount++;
            }
        }

        /** For each set of ends and each PIECE: the fewest openings that join them all, from small sets to all. */
        int fewestOpenings() {
            if (endCount == 0) {
                return 0;
            }
            int all = (1 << endCount) - 1;
            for (int set = 1; set <= all; set++) {
                joinSets(set);
                spread(set * SQUARES);
            }
            return cost[all * SQUARES + goal];
        }

        /** The ways to a set that fork at each PIECE itself. */
        private void joinSets(int set) {
            int row = set * SQUARES;
            for (int p = 0; p < count; p++) {
                cost[row + p] = FAR_OFF;
            }
            for (int k = 0; k < endCount; k++) {
                if (set == 1 << k) {
                    cost[row + ends[k]] = 0;
                }
            }
            for (int part = 1; part < set; part++) {
                if ((part & set) == part && part < set - part) {
                    joinParts(row, part * SQUARES, (set - part) * SQUARES);
                }
            }
        }

        private void joinParts(int row, int one, int rest) {
            for (int p = 0; p < count; p++) {
                cost[row + p] = Math.min(cost[row + p], cost[one + p] + cost[rest + p]);
            }
        }

        /** Each opening costs 1, so PIECES are settled by rising cost. */
        private void spread(int row) {
            boolean farther = true;
            for (int far = 0; farther && far < count; far++) {
                farther = false;
                for (int p = 0; p < count; p++) {
                    if (cost[row + p] == far) {
                        openFrom(row, p, far + 1);
                    } else if (cost[row + p] > far) {
                        farther = true;
                    }
                }
            }
        }

        private void openFrom(int row, int p, int price) {
            for (int k = besideStart[p]; k < besideStart[p + 1]; k++) {
                int q = row + beside[k];
                cost[q] = Math.min(cost[q], price);
            }
        }
    }

    /** WALKS that are told, and those that cross least. */
    private static final class Walker {
        /** A crossing weighs more than the STEPS of any walk that comes to no SQUARE twice. */
        static final int CROSSING = 400;
        private static final int TURNS_MOST = 1000000;

        final int[] told = {NONE, NONE, NONE};
        private int square;
        private int steps;
        private int crossings;
        private final int[] cost = new int[SQUARES];
        private final int[] queue = new int[SQUARES];
        private final int[] waits = new int[SQUARES];
        private int head;
        private int waiting;

        /** How often the text's walk crosses; without a meaning, once the text has a FAULT. */
        int follow(Reader text, Ground ground, int from) {
            square = from;
            steps = 0;
            crossings = 0;
            for (int rows = 0; rows <= TEXT_MOST; rows++) {
                if (text.isAtEnd()) {
                    if (text.closes()) {
                        told[0] = square % WIDE;
                        told[1] = square / WIDE;
                        told[2] = steps;
                    }
                    return crossings;
                }
                if (!followRow(text, ground)) {
                    return NONE;
                }
            }
            return NONE;
        }

        private boolean followRow(Reader text, Ground ground) {
            if (!text.isWord(WORD_NORTH, WORD_WEST)) {
                return text.fail(1);
            }
            int place = text.start;
            int direction = text.word;
            if (!text.readNumber(1, WIDE)) {
                return false;
            }
            for (int k = 0; k < text.value; k++) {
                int next = stepFrom(square, direction);
                if (next < 0) {
                    return text.failAt(5, place);
                }
                crossings += ground.crossed(square, direction);
                square = next;
                steps++;
            }
            return text.readSemicolon();
        }

        /** Crossings, each CROSSING, and STEPS of the walk that has least of these. */
        int cheapest(Ground ground, int from, int to) {
            Arrays.fill(cost, FAR_OFF);
            Arrays.fill(waits, 0);
            head = 0;
            waiting = 0;
            offer(from, 0);
            for (int turn = 0; turn < TURNS_MOST && waiting > 0; turn++) {
                int next = queue[head];
                head = head + 1 < SQUARES ? head + 1 : 0;
                waiting--;
                waits[next] = 0;
                offerNeighbours(ground, next);
            }
            return cost[to];
        }

        private void offerNeighbours(Ground ground, int from) {
            for (int direction = NORTH; direction <= WEST; direction++) {
                int next = stepFrom(from, direction);
                if (next >= 0) {
                    offer(next, cost[from] + ground.crossed(from, direction) * CROSSING + 1);
                }
            }
        }

        private void offer(int next, int price) {
            if (price >= cost[next]) {
                return;
            }
            cost[next] = price;
            if (waits[next] == 0 && waiting < SQUARES) {
                waits[next] = 1;
                int tail = head + waiting;
                queue[tail < SQUARES ? tail : tail - SQUARES] = next;
                waiting++;
            }
        }
    }

    /** PACES, where they end and how they are MENDED. */
    private static final class Pacer {
        private static final int PACE_MOST = 99;

        final int[] told = {NO_PACES, NO_PACES, NO_PACES, NO_PACES};
        private int rows;
        private final int[] directions = new int[ROWS_MOST];
        private final int[] lengths = new int[ROWS_MOST];
        private final int[] rowsWithRoom = new int[PACE_MOST];

        /** How many ROWS the text has; NONE at a FAULT. */
        int follow(Reader text) {
            rows = 0;
            for (int k = 0; k <= TEXT_MOST; k++) {
                if (text.isAtEnd()) {
                    return text.closes() && (rows >= 2 || text.fail(4)) ? reckon() : NONE;
                }
                if (!followRow(text)) {
                    return NONE;
                }
            }
            return NONE;
        }

        private boolean followRow(Reader text) {
            if (!text.isWord(WORD_NORTH, WORD_WEST)) {
                return text.fail(1);
            }
            if (rows >= ROWS_MOST) {
                return text.fail(4);
            }
            directions[rows] = text.word;
            if (!text.readNumber(1, PACE_MOST)) {
                return false;
            }
            lengths[rows] = text.value;
            rows++;
            return text.readSemicolon();
        }

        private int reckon() {
            int far = together(EAST) - together(WEST);
            int deep = together(SOUTH) - together(NORTH);
            int farRows = rowsToMend(EAST, WEST, far);
            int deepRows = rowsToMend(SOUTH, NORTH, deep);
            boolean mended = farRows >= 0 && deepRows >= 0;
            told[0] = far;
            told[1] = deep;
            told[2] = mended ? farRows + deepRows : NONE;
            told[3] = mended ? Math.abs(far) + Math.abs(deep) : NONE;
            return rows;
        }

        private int together(int direction) {
            int sum = 0;
            for (int k = 0; k < rows; k++) {
                if (directions[k] == direction) {
                    sum += lengths[k];
                }
            }
            return sum;
        }

        /**
         * The ROWS with most room come first; none has to change away from where it should,
         * so that the changes are together what is amiss, and no more.
         */
        private int rowsToMend(int ahead, int back, int amiss) {
            Arrays.fill(rowsWithRoom, 0);
            for (int k = 0; k < rows; k++) {
                if (directions[k] == ahead || directions[k] == back) {
                    boolean shrinks = (directions[k] == ahead) == (amiss > 0);
                    rowsWithRoom[shrinks ? lengths[k] - 1 : PACE_MOST - lengths[k]]++;
                }
            }
            int left = Math.abs(amiss);
            int changed = 0;
            for (int room = PACE_MOST - 1; room > 0; room--) {
                for (int k = 0; k < rowsWithRoom[room] && left > 0; k++) {
                    left -= room;
                    changed++;
                }
            }
            return left > 0 ? NONE : changed;
        }
    }

    /** Points of which is told whose they are, and the law by which they are judged. */
    private static final class Points {
        private static final int MOST = 8;
        /** ROUNDS of all points stand in one long, 8 bits each, 16 more than they are so that none is below 0. */
        static final long NO_ROUNDS = 0x1010101010101010L;
        private static final int LANE = 8;
        private static final int NOT_BELOW = 16;

        int law;
        int edge;
        private int count;
        private final int[] x = new int[MOST];
        private final int[] y = new int[MOST];
        private final int[] owner = new int[MOST];

        /** Takes them from the tape: are they as told? */
        boolean take(Reader tape) {
            count = 0;
            if (tape.length < 3 || tape.length > 3 * MOST || tape.length % 3 != 0) {
                return false;
            }
            for (int at = 0; at + 2 < tape.length && count < MOST; at += 3) {
                if (!isPoint(tape.bytes[at], tape.bytes[at + 1]) || tape.bytes[at + 2] > 1) {
                    return false;
                }
                x[count] = tape.bytes[at];
                y[count] = tape.bytes[at + 1];
                owner[count] = tape.bytes[at + 2];
                count++;
            }
            return true;
        }

        /** What the EDGE adds to the ROUNDS of all points that are not on it. */
        long roundsBy(int x1, int y1, int x2, int y2) {
            long rounds = 0;
            for (int p = 0; p < count; p++) {
                int pass = passes(x1, y1, x2, y2, x[p], y[p]);
                if (pass != ON) {
                    rounds += (long) pass << LANE * p;
                }
            }
            return rounds;
        }

        /** The points that are on the EDGE, a bit each. */
        int onBy(int x1, int y1, int x2, int y2) {
            int on = 0;
            for (int p = 0; p < count; p++) {
                if (passes(x1, y1, x2, y2, x[p], y[p]) == ON) {
                    on |= 1 << p;
                }
            }
            return on;
        }

        boolean fit(long rounds, int on) {
            for (int p = 0; p < count; p++) {
                if (!fitOne(p, roundOf(rounds, p), (on >> p & 1) != 0)) {
                    return false;
                }
            }
            return true;
        }

        /** Likewise with one EDGE more; it is looked at only as long as the points fit. */
        boolean fitWithEdge(long rounds, int on, int x1, int y1, int x2, int y2) {
            for (int p = 0; p < count; p++) {
                int pass = passes(x1, y1, x2, y2, x[p], y[p]);
                if (!fitOne(p, roundOf(rounds, p) + pass, pass == ON || (on >> p & 1) != 0)) {
                    return false;
                }
            }
            return true;
        }

        private static int roundOf(long rounds, int p) {
            return (int) (rounds >>> LANE * p & 255) - NOT_BELOW;
        }

        private boolean fitOne(int p, int times, boolean on) {
            if (on) {
                return owner[p] == edge;
            }
            return isHis(law, times) == (owner[p] == 1);
        }

        /** By each law a RECTANGLE's inside is HIS: it goes round it once, to the left. */
        boolean fitRectangle(int x1, int y1, int x2, int y2) {
            int rim = 1 - edge;
            for (int p = 0; p < count; p++) {
                boolean his = x1 + rim <= x[p] && x[p] <= x2 - rim && y1 + rim <= y[p] && y[p] <= y2 - rim;
                if (his != (owner[p] == 1)) {
                    return false;
                }
            }
            return true;
        }
    }

    /** What EDGES do at the told points, kept by the numbers of places or kinds. */
    private static final class Sights {
        final long[] rounds;
        final int[] on;

        Sights(int most) {
            rounds = new long[most];
            on = new int[most];
        }
    }

    /** Which corners can have been MOVED so that told points are whose they are told to be. */
    private static final class Night {
        static final int REACH_MOST = 3;
        private static final int PLACES = 48;

        int fewest;
        int ways = NONE;
        /** Of the first way: corner, X and Y of the one, then of the other. */
        final int[] first = new int[6];
        private final Points points;
        private final Line line = new Line();
        private final Sights edges = new Sights(CORNERS_MOST);
        private final int[] placeCount = new int[CORNERS_MOST];
        private final int[] placeX = new int[CORNERS_MOST * PLACES];
        private final int[] placeY = new int[CORNERS_MOST * PLACES];
        private final Sights coming = new Sights(CORNERS_MOST * PLACES);
        private final Sights going = new Sights(CORNERS_MOST * PLACES);
        /** Places of a corner that do the same at all points are of one kind; a kind's first place leads it. */
        private final Sights kinds = new Sights(CORNERS_MOST * PLACES);
        private final int[] kindCount = new int[CORNERS_MOST];
        private final int[] kindSize = new int[CORNERS_MOST * PLACES];
        private final int[] kindFirst = new int[CORNERS_MOST * PLACES];
        private long restRounds;
        private int restOn;
        private int found;

        Night(Points points) {
            this.points = points;
        }

        /** The fewest corners; NONE: more than 2, and then what was found before stays. */
        int search(Line told, int reach) {
            line.copyFrom(told);
            seeEdges();
            found = 0;
            leaveOut(NONE, NONE);
            if (points.fit(restRounds, restOn)) {
                found = 1;
                return conclude(0);
            }
            for (int c = 0; c < line.corners; c++) {
                seePlaces(c, reach);
                sortKinds(c);
            }
            for (int c = 0; c < line.corners; c++) {
                tryOne(c);
            }
            if (found > 0) {
                return conclude(1);
            }
            for (int i = 0; i < line.corners; i++) {
                for (int j = i + 1; j < line.corners; j++) {
                    tryTwo(i, j);
                }
            }
            return found > 0 ? conclude(2) : NONE;
        }

        private int conclude(int corners) {
            fewest = corners;
            ways = found;
            return corners;
        }

        private void seeEdges() {
            for (int i = 0; i < line.corners; i++) {
                int j = line.after(i);
                edges.rounds[i] = points.roundsBy(line.x[i], line.y[i], line.x[j], line.y[j]);
                edges.on[i] = points.onBy(line.x[i], line.y[i], line.x[j], line.y[j]);
            }
        }

        /** All places that a corner can have come to, by DX, then DY. */
        private void seePlaces(int c, int reach) {
            placeCount[c] = 0;
            for (int dx = -reach; dx <= reach; dx++) {
                for (int dy = -reach; dy <= reach; dy++) {
                    boolean moves = dx != 0 || dy != 0;
                    if (moves && isPoint(line.x[c] + dx, line.y[c] + dy) && placeCount[c] < PLACES) {
                        seePlace(c, line.x[c] + dx, line.y[c] + dy);
                    }
                }
            }
        }

        private void seePlace(int c, int px, int py) {
            int place = c * PLACES + placeCount[c];
            int b = line.before(c);
            int a = line.after(c);
            placeX[place] = px;
            placeY[place] = py;
            coming.rounds[place] = points.roundsBy(line.x[b], line.y[b], px, py);
            coming.on[place] = points.onBy(line.x[b], line.y[b], px, py);
            going.rounds[place] = points.roundsBy(px, py, line.x[a], line.y[a]);
            going.on[place] = points.onBy(px, py, line.x[a], line.y[a]);
            placeCount[c]++;
        }

        private void sortKinds(int c) {
            kindCount[c] = 0;
            for (int k = 0; k < placeCount[c]; k++) {
                int place = c * PLACES + k;
                if (line.mayStandAt(c, placeX[place], placeY[place])) {
                    sortKind(c, place);
                }
            }
        }

        private void sortKind(int c, int place) {
            long rounds = coming.rounds[place] + going.rounds[place];
            int on = coming.on[place] | going.on[place];
            int end = c * PLACES + kindCount[c];
            for (int kind = c * PLACES; kind < end; kind++) {
                if (kinds.rounds[kind] == rounds && kinds.on[kind] == on) {
                    kindSize[kind]++;
                    return;
                }
            }
            if (kindCount[c] < PLACES) {
                kinds.rounds[end] = rounds;
                kinds.on[end] = on;
                kindSize[end] = 1;
                kindFirst[end] = place;
                kindCount[c]++;
            }
        }

        /** What all EDGES do but those at corners i and j. */
        private void leaveOut(int i, int j) {
            restRounds = Points.NO_ROUNDS;
            restOn = 0;
            for (int e = 0; e < line.corners; e++) {
                int f = line.after(e);
                if (e != i && e != j && f != i && f != j) {
                    restRounds += edges.rounds[e];
                    restOn |= edges.on[e];
                }
            }
        }

        private void tryOne(int c) {
            leaveOut(c, c);
            int end = c * PLACES + kindCount[c];
            for (int kind = c * PLACES; kind < end; kind++) {
                if (points.fit(restRounds + kinds.rounds[kind], restOn | kinds.on[kind])) {
                    if (found == 0) {
                        keepFirst(0, c, kindFirst[kind]);
                    }
                    found += kindSize[kind];
                }
            }
        }

        private void tryTwo(int i, int j) {
            leaveOut(i, j);
            if (line.after(i) == j || line.after(j) == i) {
                tryNeighbours(i, j);
            } else {
                tryApart(i, j);
            }
        }

        /** Corners without an EDGE between them: kind by kind. The first places of kinds rise, as the ways do. */
        private void tryApart(int i, int j) {
            int iEnd = i * PLACES + kindCount[i];
            int jEnd = j * PLACES + kindCount[j];
            for (int k = i * PLACES; k < iEnd; k++) {
                long rounds = restRounds + kinds.rounds[k];
                int on = restOn | kinds.on[k];
                for (int m = j * PLACES; m < jEnd; m++) {
                    if (points.fit(rounds + kinds.rounds[m], on | kinds.on[m])) {
                        keepFirstTwo(i, kindFirst[k], j, kindFirst[m]);
                        found += kindSize[k] * kindSize[m];
                    }
                }
            }
        }

        /** Corners with an EDGE between them: it goes from place to place, so all are tried. */
        private void tryNeighbours(int i, int j) {
            int iEnd = i * PLACES + placeCount[i];
            int jEnd = j * PLACES + placeCount[j];
            boolean iLeads = line.after(i) == j;
            for (int k = i * PLACES; k < iEnd; k++) {
                for (int m = j * PLACES; m < jEnd; m++) {
                    if (iLeads ? fitBetween(i, k, j, m) : fitBetween(j, m, i, k)) {
                        keepFirstTwo(i, k, j, m);
                        found++;
                    }
                }
            }
        }

        /** Corner a at place k, and behind it corner b at place m. */
        private boolean fitBetween(int a, int k, int b, int m) {
            if (line.isAt(line.before(a), placeX[k], placeY[k]) || line.isAt(line.after(b), placeX[m], placeY[m])
                || placeX[k] == placeX[m] && placeY[k] == placeY[m]) {
                return false;
            }
            long rounds = restRounds + coming.rounds[k] + going.rounds[m];
            int on = restOn | coming.on[k] | going.on[m];
            return points.fitWithEdge(rounds, on, placeX[k], placeY[k], placeX[m], placeY[m]);
        }

        private void keepFirstTwo(int i, int iPlace, int j, int jPlace) {
            if (found == 0) {
                keepFirst(0, i, iPlace);
                keepFirst(1, j, jPlace);
            }
        }

        private void keepFirst(int k, int c, int place) {
            first[k * 3] = c;
            first[k * 3 + 1] = placeX[place];
            first[k * 3 + 2] = placeY[place];
        }
    }
}
