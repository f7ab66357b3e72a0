/** Feeds texts and points to an OddHay, as bytes, twenty at a time. */
final class Tell {
    private Tell() {
    }

    static void text(OddHay hay, String text) {
        int[] bytes = new int[text.length()];
        for (int i = 0; i < bytes.length; i++) {
            bytes[i] = text.charAt(i);
        }
        bytes(hay, bytes);
    }

    /** The tape then has its old bytes and these. */
    static void bytes(OddHay hay, int... bytes) {
        int before = hay.count(7);
        for (int at = 0; at < bytes.length; at += 20) {
            hay.feed(four(bytes, at), four(bytes, at + 4), four(bytes, at + 8), four(bytes, at + 12),
                four(bytes, at + 16));
        }
        if (!hay.end(before + bytes.length)) {
            throw new IllegalStateException("the tape did not take all bytes");
        }
    }

    private static int four(int[] bytes, int at) {
        int number = 0;
        for (int i = at; i < at + 4; i++) {
            number = number << 8 | (i < bytes.length ? bytes[i] & 255 : 0);
        }
        return number;
    }
}
