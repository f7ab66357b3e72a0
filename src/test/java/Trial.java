import java.util.NoSuchElementException;

/** What the tests by hand share: an object, texts and points told to it, answers compared with those that are due. */
abstract class Trial {
    static final String FIELD = "line p 2 2 8 2 8 8 2 8;";
    static final String BOW = "line p 0 0 4 4 4 0 0 4;";
    static final String TWICE = "line p 2 2 8 2 8 8 2 8 2 2 8 2 8 8 2 8;";
    static final int THROWS = Integer.MIN_VALUE;

    private static int answers;
    private static int wrong;
    private static String about = "";
    OddHay hay = new OddHay();

    interface Call {
        int answer();
    }

    interface Asked {
        int answer(int number);
    }

    /** The promise or the sentence of the document by which the next answers are due, those of a new object. */
    final void about(String text) {
        about = text;
        renew();
    }

    /** An object is used for at most 512 calls: long loops take another one. */
    final void renew() {
        hay = new OddHay();
    }

    static void due(String what, int want, int got) {
        answers++;
        if (got != want) {
            wrong++;
            System.out.println(about + ": " + what + " answered " + got + ", due is " + want);
        }
    }

    static void due(String what, boolean want, boolean got) {
        due(what, want ? 1 : 0, got ? 1 : 0);
    }

    static int orThrows(Call call) {
        try {
            return call.answer();
        } catch (NoSuchElementException e) {
            return THROWS;
        }
    }

    /** The least and the most number are answered, and those beyond them are refused, near by and far off. */
    static void bounds(String what, int least, int most, int refusal, Asked asked) {
        int[] within = {least, most};
        for (int n : within) {
            due(what + " " + n + " is refused", false, orThrows(() -> asked.answer(n)) == refusal);
        }
        int[] beyond = {least - 1, most + 1, Integer.MIN_VALUE, Integer.MAX_VALUE};
        for (int n : beyond) {
            due(what + " " + n, refusal, orThrows(() -> asked.answer(n)));
        }
    }

    static void close(String name) {
        System.out.println(name + ": " + answers + " answers, "
            + (wrong == 0 ? "all are as due" : wrong + " are not as due"));
        System.exit(wrong == 0 && answers > 0 ? 0 : 1);
    }

    final void tell(String text) {
        Tell.text(hay, text);
    }

    final int parish(String text) {
        tell(text);
        return hay.parish();
    }

    final int claims(int line, String text) {
        tell(text);
        return hay.claims(line);
    }

    final int walk(int line, int h, String text) {
        tell(text);
        return hay.walk(line, h);
    }

    final int paces(String text) {
        tell(text);
        return hay.paces();
    }

    final int byNight(int line, int r, int... bytes) {
        Tell.bytes(hay, bytes);
        return hay.byNight(line, r);
    }

    final int rectangle(int... bytes) {
        Tell.bytes(hay, bytes);
        return hay.rectangle();
    }

    /** The text has this FAULT, at this place. */
    final void faulty(int kind, int place, String text) {
        due("parish of '" + text + "'", -1 - place, parish(text));
        due("fault of '" + text + "'", kind, hay.fault());
    }

    final void sound(int rows, String text) {
        due("parish of '" + text + "'", rows, parish(text));
        due("fault of '" + text + "'", 0, hay.fault());
    }

    final void claimsFaulty(int kind, int place, String text) {
        due("claims '" + text + "'", -1 - place, claims(0, text));
        due("fault of '" + text + "'", kind, hay.fault());
    }

    final void walkFaulty(int kind, int place, String text) {
        due("walk '" + text + "'", -1 - place, walk(0, 0, text));
        due("fault of '" + text + "'", kind, hay.fault());
    }

    final void pacesFaulty(int kind, int place, String text) {
        due("paces '" + text + "'", -1 - place, paces(text));
        due("fault of '" + text + "'", kind, hay.fault());
    }
}
