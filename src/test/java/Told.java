import java.io.IOException;
import java.io.UncheckedIOException;
import java.nio.charset.StandardCharsets;
import java.nio.file.Files;
import java.nio.file.Path;

/** Texts for tests: puts them on a tape, makes markets of them, and counts answers that are not as due. */
final class Told {
    private static final Path DOCUMENT = Path.of("..", "shared", "DOC.md");
    private static int wrong = 0;
    private static int seen = 0;
    private static String document = "";
    private static String sentence = "";

    private Told() {
    }

    /** What follows tests these words of the document; they must stand in it, at "Terms 1" or "Promise 2", say. */
    static void sentence(String place, String words) {
        sentence = place + ", \"" + words + "\": ";
        if (Files.exists(DOCUMENT)) {
            due("it stands in the document", section(place).contains(words), true);
        }
    }

    private static String section(String place) {
        String head = place.startsWith("Terms ") ? "==== " + place.substring(6) + ". " : "## " + place;
        String all = document();
        int from = all.indexOf(head);
        if (from < 0) {
            return "";
        }
        int next = all.indexOf("\n====", from);
        int to = all.indexOf("\n## ", from);
        return all.substring(from, next < 0 ? to : Math.min(next, to));
    }

    private static String document() {
        if (document.isEmpty()) {
            try {
                document = Files.readString(DOCUMENT);
            } catch (IOException e) {
                throw new UncheckedIOException(e);
            }
        }
        return document;
    }

    static void feed(FirstTimes x, String text) {
        byte[] bytes = text.getBytes(StandardCharsets.ISO_8859_1);
        for (int from = 0; from < bytes.length; from += 20) {
            x.feed(word(bytes, from), word(bytes, from + 4), word(bytes, from + 8), word(bytes, from + 12),
                    word(bytes, from + 16));
        }
    }

    private static int word(byte[] bytes, int from) {
        int word = 0;
        for (int i = from; i < from + 4; i++) {
            word = word << 8 | (i < bytes.length ? bytes[i] & 255 : 0);
        }
        return word;
    }

    static int text(FirstTimes x, int sort, String text) {
        x.end(0);
        feed(x, text);
        return x.text(sort);
    }

    static int fault(FirstTimes x, int sort, String text) {
        x.end(0);
        feed(x, text);
        int fault = x.fault(sort);
        x.end(0);
        return fault;
    }

    static FirstTimes market(String text) {
        FirstTimes x = new FirstTimes();
        due("the market " + text + " is taken", text(x, 0, text) >= 2, true);
        return x;
    }

    /** What person answers, or "throws" where it throws NoSuchElementException. */
    static String person(FirstTimes x, int person, int what) {
        try {
            return String.valueOf(x.person(person, what));
        } catch (java.util.NoSuchElementException e) {
            return "throws";
        }
    }

    static void due(String what, Object got, Object want) {
        seen++;
        if (!got.equals(want)) {
            wrong++;
            System.out.println(sentence + what + ": answered " + got + ", due is " + want);
        }
    }

    static void close(String name) {
        System.out.println(name + ": " + seen + " answers looked at, " + wrong + " not as due");
        if (wrong != 0 || seen == 0) {
            System.exit(1);
        }
    }
}
