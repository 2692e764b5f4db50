import java.nio.charset.StandardCharsets;

/** Texts for tests: puts them on a tape, makes markets of them, and counts answers that are not as due. */
final class Told {
    private static int wrong = 0;
    private static int seen = 0;

    private Told() {
    }

    static void feed(FirstTimes x, String text) {
        byte[] bytes = text.getBytes(StandardCharsets.ISO_8859_1);
        for (int from = 0; from < bytes.length; from += 20) {
            x.feed(word(bytes, from), word(bytes, from + 4), word(bytes, from + 8), word(bytes, from + 12),
                    word(bytes, from + 16));
        }
    }

    private static int word(byte[] bytes, int from) {
        int word = 0;
        for (int i = from; i < from + 4; i++) {
            word = word << 8 | (i < bytes.length ? bytes[i] & 255 : 0);
        }
        return word;
    }

    static int text(FirstTimes x, int sort, String text) {
        x.end(0);
        feed(x, text);
        return x.text(sort);
    }

    static int fault(FirstTimes x, int sort, String text) {
        x.end(0);
        feed(x, text);
        int fault = x.fault(sort);
        x.end(0);
        return fault;
    }

    static FirstTimes market(String text) {
        FirstTimes x = new FirstTimes();
        due("the market " + text + " is taken", text(x, 0, text) >= 2, true);
        return x;
    }

    /** What person answers, or "throws" where it throws NoSuchElementException. */
    static String person(FirstTimes x, int person, int what) {
        try {
            return String.valueOf(x.person(person, what));
        } catch (java.util.NoSuchElementException e) {
            return "throws";
        }
    }

    static void due(String what, Object got, Object want) {
        seen++;
        if (!got.equals(want)) {
            wrong++;
            System.out.println(what + ": answered " + got + ", due is " + want);
        }
    }

    static void close(String name) {
        System.out.println(name + ": " + seen + " answers looked at, " + wrong + " not as due");
        if (wrong != 0 || seen == 0) {
            System.exit(1);
        }
    }
}
