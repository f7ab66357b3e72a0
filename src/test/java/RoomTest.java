import com.sun.management.ThreadMXBean;
import java.lang.management.ManagementFactory;

/** All calls of a run live in one room: the rows are made once, by the constructor, and no call makes any more. */
public final class RoomTest {
    private static final ThreadMXBean BEAN = (ThreadMXBean) ManagementFactory.getThreadMXBean();
    private static final String PARISH = "line p 0 0 20 1 0 3 20 4 0 6 20 8 0 10 20 12 0 14 20 16 0 18 20 20;"
        + "line q 2 2 8 2 8 8 2 8;hay a 0 0 1;hay b 19 3 2;hay c 3 12 3;hay d 9 19 4;hay f 19 19 5;hay g 7 7 6;"
        + "church 10 10;law left;edge his;heirs 1 2 3 4;";

    private RoomTest() {
    }

    private static long made() {
        return BEAN.getThreadAllocatedBytes(Thread.currentThread().getId());
    }

    public static void main(String[] args) {
        OddHay hay = new OddHay();
        int[] parish = bytes(PARISH);
        int[] walk = bytes("e 4;s 5;w 2;");
        int[] claims = bytes("a his;point 3 3 on;");
        int[] points = {2, 5, 1, 9, 9, 0, 20, 20, 1, 14, 3, 1, 0, 19, 0, 5, 5, 1, 11, 12, 0, 17, 1, 1};
        all(hay, parish, walk, claims, points);
        long before = made();
        long idle = made() - before;
        before = made();
        for (int k = 0; k < 10; k++) {
            all(hay, parish, walk, claims, points);
        }
        long calls = made() - before - idle;
        before = made();
        OddHay other = new OddHay();
        long object = made() - before - idle + other.count(0);
        System.out.println("room: a new object takes " + object + " bytes, 10 rounds of all calls " + calls);
        System.exit(calls == 0 && object < 400000 ? 0 : 1);
    }

    private static int[] bytes(String text) {
        return text.chars().toArray();
    }

    private static void put(OddHay hay, int[] bytes) {
        hay.end(0);
        for (int at = 0; at < bytes.length; at += 20) {
            hay.feed(four(bytes, at), four(bytes, at + 4), four(bytes, at + 8), four(bytes, at + 12),
                four(bytes, at + 16));
        }
        hay.end(bytes.length);
    }

    private static int four(int[] bytes, int at) {
        int number = 0;
        for (int i = at; i < at + 4; i++) {
            number = number << 8 | (i < bytes.length ? bytes[i] : 0);
        }
        return number;
    }

    private static void all(OddHay hay, int[] parish, int[] walk, int[] claims, int[] points) {
        put(hay, parish);
        int sum = 0;
        if (hay.parish() != 12) {
            throw new IllegalStateException("the PARISH has a FAULT");
        }
        for (int line = 0; line < 2; line++) {
            for (int what = 0; what < 5; what++) {
                sum += hay.line(line, what) + hay.piece(line, what, what) + hay.least(line, what, what % 2);
                sum += hay.corner(line, 0, what % 3) + hay.hay(what, what % 3) + hay.way(0, what) + hay.side(what);
                sum += hay.walked(what) + hay.paced(what) + hay.count(what) + hay.estate(what);
            }
            sum += hay.whose(line, 3, 4) + hay.round(line, 9, 1) + hay.square(line, 3, 4) + hay.acres(line);
            sum += hay.border(line) + hay.within(line, 1 - line) + hay.loads(line, 1) + hay.heir(3, 4);
            sum += hay.pieces(line) + hay.pieceAt(line, 3, 4) + hay.crosses(line, 3, 4, 1) + hay.stiles(line);
            sum += hay.moved(line, 1, 5, 5, 1) + (hay.move(line, 1, 5, 5) ? 1 : 0) + (hay.shift(line, 1, 0) ? 1 : 0);
            sum += hay.nights(200, 5) + hay.undo() + (hay.image(line) ? 1 : 0) + (hay.restore(line) ? 1 : 0);
            put(hay, walk);
            sum += hay.walk(line, 0) + hay.fault();
            put(hay, walk);
            sum += hay.paces();
            put(hay, claims);
            sum += hay.claims(line) + hay.wrong();
            put(hay, points);
            sum += hay.byNight(line, 3) + hay.ways();
            put(hay, points);
            sum += hay.rectangle();
        }
        if (sum == Integer.MIN_VALUE) {
            System.out.println(sum);
        }
    }
}
