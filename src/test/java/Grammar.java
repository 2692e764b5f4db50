import java.util.ArrayList;
import java.util.HashMap;
import java.util.LinkedHashSet;
import java.util.List;
import java.util.Map;
import java.util.Set;

/**
 * Texts by rules alone, read by Earley's way: all that could still stand there is carried along, so the first byte
 * behind which nothing is carried is the fault. The class reads another way.
 */
final class Grammar {
    private record Item(String head, int rule, int dot, int from) {
    }

    private final Map<String, List<String[]>> rules = new HashMap<>();
    private final String start;

    Grammar(String start) {
        this.start = start;
        rule("W", "");
        rule("W", "' W");
    }

    /** A rule's parts have blanks between; 'c is the byte c, #c the byte c behind any blanks, others are heads. */
    void rule(String head, String parts) {
        rules.computeIfAbsent(head, h -> new ArrayList<>()).add(split(parts));
    }

    private static String[] split(String parts) {
        List<String> all = new ArrayList<>();
        String text = parts;
        while (!text.isEmpty()) {
            if (text.charAt(0) == ' ') {
                text = text.substring(1);
                continue;
            }
            int end = 1;
            if (text.charAt(0) == '\'' || text.charAt(0) == '#') {
                end = 2;
            } else {
                while (end < text.length() && text.charAt(end) != ' ') {
                    end++;
                }
            }
            String part = text.substring(0, end);
            if (part.charAt(0) == '#') {
                all.add("W");
                part = "'" + part.charAt(1);
            }
            all.add(part);
            text = text.substring(end);
        }
        return all.toArray(new String[0]);
    }

    int fault(String text) {
        List<Set<Item>> sets = new ArrayList<>();
        Set<Item> now = new LinkedHashSet<>();
        for (int i = 0; i < rules.get(start).size(); i++) {
            now.add(new Item(start, i, 0, 0));
        }
        for (int at = 0; at <= text.length(); at++) {
            sets.add(now);
            Set<Item> next = grow(sets, at, at < text.length() ? text.charAt(at) : 0);
            if (at == text.length()) {
                break;
            }
            if (next.isEmpty()) {
                return at;
            }
            now = next;
        }
        for (Item i : sets.get(text.length())) {
            if (i.head.equals(start) && i.from == 0 && i.dot == rules.get(start).get(i.rule).length) {
                return -1;
            }
        }
        return text.length();
    }

    private Set<Item> grow(List<Set<Item>> sets, int at, char c) {
        Set<Item> now = sets.get(at);
        Set<Item> next = new LinkedHashSet<>();
        List<Item> todo = new ArrayList<>(now);
        for (int k = 0; k < todo.size(); k++) {
            Item i = todo.get(k);
            String[] parts = rules.get(i.head).get(i.rule);
            List<Item> more = new ArrayList<>();
            if (i.dot == parts.length) {
                for (Item j : new ArrayList<>(sets.get(i.from))) {
                    String[] waiting = rules.get(j.head).get(j.rule);
                    if (j.dot < waiting.length && waiting[j.dot].equals(i.head)) {
                        more.add(new Item(j.head, j.rule, j.dot + 1, j.from));
                    }
                }
            } else if (parts[i.dot].charAt(0) == '\'') {
                if (parts[i.dot].charAt(1) == c) {
                    next.add(new Item(i.head, i.rule, i.dot + 1, i.from));
                }
            } else {
                for (int r = 0; r < rules.get(parts[i.dot]).size(); r++) {
                    more.add(new Item(parts[i.dot], r, 0, at));
                }
                // What is done without a byte was perhaps done ahead of this item.
                if (parts[i.dot].equals("W")) {
                    more.add(new Item(i.head, i.rule, i.dot + 1, i.from));
                }
            }
            for (Item m : more) {
                if (now.add(m)) {
                    todo.add(m);
                }
            }
        }
        return next;
    }

    static Grammar ofTastes() {
        Grammar g = new Grammar("Text");
        g.rule("Text", "Clauses W");
        g.rule("Clauses", "Clause");
        g.rule("Clauses", "Clauses #; Clause");
        g.rule("Clause", "#y #: Sum0");
        g.rule("Clause", "#y #: Cond0 #? Sum0");
        for (int d = 0; d <= 6; d++) {
            g.rule("Cond" + d, "Truth" + d);
            g.rule("Cond" + d, "Cond" + d + " #| Truth" + d);
            g.rule("Truth" + d, "Unit" + d);
            g.rule("Truth" + d, "Truth" + d + " #& Unit" + d);
            for (char c : "=<>".toCharArray()) {
                g.rule("Unit" + d, "Sum" + d + " #" + c + " Sum" + d);
            }
            g.rule("Sum" + d, "Term" + d);
            g.rule("Sum" + d, "Sum" + d + " #+ Term" + d);
            g.rule("Sum" + d, "Sum" + d + " #- Term" + d);
            g.rule("Term" + d, "Atom" + d);
            g.rule("Term" + d, "Term" + d + " #* Atom" + d);
            g.rule("Term" + d, "Term" + d + " #/ Atom" + d);
            for (char c : "vrdgmlh".toCharArray()) {
                g.rule("Atom" + d, "#" + c);
            }
            g.rule("Atom" + d, "W Digit");
            g.rule("Atom" + d, "W Digit Digit");
            g.rule("Atom" + d, "W Digit Digit Digit");
            g.rule("Atom" + d, "W Digit Digit Digit Digit");
            if (d < 6) {
                g.rule("Unit" + d, "#! Unit" + (d + 1));
                g.rule("Unit" + d, "#( Cond" + (d + 1) + " #)");
                g.rule("Atom" + d, "#[ Sum" + (d + 1) + " #]");
            }
        }
        g.digits();
        return g;
    }

    static Grammar ofPlans() {
        Grammar g = new Grammar("Text");
        for (int n = 1; n <= 12; n++) {
            g.rule("Text", "Steps" + n + " W");
            g.rule("Steps" + n, n == 1 ? "Step" : "Steps" + (n - 1) + " #; Step");
        }
        g.rule("Step", "#d");
        g.rule("Step", "#h W Digit W Digit");
        g.rule("Step", "#t W Digit W Digit W Digit");
        g.rule("Step", "#s W Digit W Digit W Digit #, W Digit");
        g.rule("Step", "#s W Digit W Digit W Digit #, W Digit Digit");
        g.digits();
        return g;
    }

    private void digits() {
        for (char c = '0'; c <= '9'; c++) {
            rule("Digit", "'" + c);
        }
    }
}
