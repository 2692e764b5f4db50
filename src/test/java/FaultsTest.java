import java.util.Random;
import java.util.regex.Matcher;
import java.util.regex.Pattern;

/** Faults of texts: by hand where the document names an edge, and random texts against other readers. */
public final class FaultsTest {
    private static final int NONE = FirstTimes.NONE;
    private static final Random RANDOM = new Random(7);

    private FaultsTest() {
    }

    public static void main(String[] args) {
        markets();
        tastes();
        plans();
        shortened();
        randomTexts();
        Told.close("FaultsTest");
    }

    private static void due(int sort, String text, int want) {
        Told.due("fault " + sort + " of '" + text + "'", Told.fault(new FirstTimes(), sort, text), want);
    }

    private static void markets() {
        due(0, "", 0);
        due(0, "  ", 2);
        due(0, "x;x;p", NONE);
        due(0, " x ;x ; p ", NONE);
        due(0, "p;x;x", NONE);
        due(0, ";x;x;p", 0);
        due(0, "x;;x;p", 2);
        due(0, "x;x;p;", 6);
        due(0, "x;x;p; ", 7);
        due(0, "x", 1);
        due(0, "x;x ", 4);
        due(0, "xv", 2);
        due(0, "xv;x;p", 2);
        due(0, "xv1 2;x;p", 4);
        due(0, "xv 12;x;p", NONE);
        due(0, "xv012;x;p", 4);
        due(0, "xv99r9;x;p", NONE);
        due(0, "xr9v99;x;p", NONE);
        due(0, "xr09;x;p", NONE);
        due(0, "xr10;x;p", 3);
        due(0, "xr100;x;p", 4);
        due(0, "xr1r2;x;p", 3);
        due(0, "xm1;x;p", 1);
        due(0, "x;x;pm99g99l1", NONE);
        due(0, "x;x;pl8", NONE);
        due(0, "x;x;pl08", NONE);
        due(0, "x;x;pl9", 6);
        due(0, "x;x;pl10", 7);
        due(0, "x;x;pl100", 8);
        due(0, "x;x;pl2", 7);
        due(0, "pl2;x;x;x", NONE);
        due(0, "pl2;x;x", 7);
        due(0, "x;x;pm1m1", 7);
        due(0, "x;x;pv1", 5);
        due(0, "x;x;p;sa0b1p5", NONE);
        due(0, "x;x;p;sp01", NONE);
        due(0, "x;x;p;sp0", 8);
        due(0, "x;x;p;sp00", 9);
        due(0, "x;x;p;sp000", 10);
        due(0, "x;x;p;sp10", 9);
        due(0, "x;x;p;sa8", 8);
        due(0, "x;x;p;sb8", 8);
        due(0, "x;x;p;sa7", 9);
        due(0, "x;x;p;sb0", 9);
        due(0, "x;x;p;sb0a1", NONE);
        due(0, "x;x;p;c", NONE);
        due(0, "x;x;p;ca1", 9);
        due(0, "x;x;p;cb0", 9);
        due(0, "x;x;p;cb2", 9);
        due(0, "x;x;p;cb2;x", NONE);
        due(0, "x;x;p;cp1", 7);
        due(0, "x;x;p;ca8", 8);
        due(0, "x;x;x;x;x;x;x;x;p", NONE);
        due(0, "x;x;x;x;x;x;x;x; x", 17);
        due(0, "p;p;p;p;p;p;x;x", NONE);
        due(0, "p;p;p;p;p;p;p", 12);
        due(0, "x;x;p;s;s;s;s;s;s;s;s;s;s", NONE);
        due(0, "x;x;p;s;s;s;s;s;s;s;s;s;s;s", 26);
        due(0, "x;x;p;c;c;c;c;c;c", NONE);
        due(0, "x;x;p;c;c;c;c;c;c;c", 18);
        due(0, "X;x;p", 0);
        due(0, "x;x;p\u00ff", 5);
        due(0, "x\t;x;p", 1);
    }

    private static void tastes() {
        due(1, "y:", 2);
        due(1, "y", 1);
        due(1, "y v", 2);
        due(1, "y:1;", 4);
        due(1, "y:1;;", 4);
        due(1, "y:9999", NONE);
        due(1, "y:00001", 6);
        due(1, "y:1 2", 4);
        due(1, "y:-1", 2);
        due(1, "y:v+", 4);
        due(1, "y:v?1", 3);
        due(1, "y:v=1", 5);
        due(1, "y:v=1?2", NONE);
        due(1, "y:v=1=2?2", 5);
        due(1, "y:v=1&r>2|g<3?2", NONE);
        due(1, "y:v=1&r?2", 7);
        due(1, "y:(v=1)", 7);
        due(1, "y:(v=1)+2", 7);
        due(1, "y:(v)?2", 4);
        due(1, "y:(v=1)?2", NONE);
        due(1, "y:[v]=[1]?2", NONE);
        due(1, "y:[v=1]?2", 4);
        due(1, "y:v=[[[[[[1]]]]]]?2", NONE);
        due(1, "y:v=[[[[[[[1]]]]]]]?2", 10);
        due(1, "y:[(v)]", 3);
        due(1, "y:!v=1?2", NONE);
        due(1, "y:!v", 4);
        due(1, "y:!!!!!!v=1?2", NONE);
        due(1, "y:!!!!!!!v=1?2", 8);
        due(1, "y:!!!!!![v]=1?2", 8);
        due(1, "y:!v=1&!!!!!!v=1?2", NONE);
        due(1, "y:v=1&!!!!!!v=1?2", NONE);
        due(1, "y:v=1|!!!!!!!v=1?2", 12);
        due(1, "y:(v=1&!!!!!v=1)?2", NONE);
        due(1, "y:(v=1&!!!!!!v=1)?2", 12);
        due(1, "y:!(v=1|!!!!!v=1)?2", 12);
        due(1, "y:((((((v=1))))))?2", NONE);
        due(1, "y:(((((((v=1)))))))?2", 8);
        due(1, "y:[[[[[[v]]]]]]", NONE);
        due(1, "y:[[[[[[[v]]]]]]]", 8);
        due(1, "y:(!([[[v]]]=1))?[[[[[[1]]]]]]", NONE);
        due(1, "y:(!([[[[v]]]]=1))?1", 8);
        due(1, "y:v=1?2?3", 7);
        due(1, "y:v;y:v<1?r;y:0", NONE);
        due(1, "y:y", 2);
        due(1, " y : v = 1 ? 2 ", NONE);
        due(1, "x:v", 0);
    }

    private static void plans() {
        due(2, "h", 1);
        due(2, "h99", NONE);
        due(2, "h 9 9", NONE);
        due(2, "h999", 3);
        due(2, "s999,0", NONE);
        due(2, "s999,99", NONE);
        due(2, "s999,099", 7);
        due(2, "s999, 9 9", 8);
        due(2, "s999 9", 5);
        due(2, "s99,1", 3);
        due(2, "s999,", 5);
        due(2, "s999,x", 5);
        due(2, "t999", NONE);
        due(2, "t99", 3);
        due(2, "t999,1", 4);
        due(2, "d1", 1);
        due(2, "d;;", 2);
        due(2, "d;d;d;d;d;d;d;d;d;d;d;d;", 23);
        due(2, "d;d;d;d;d;d;d;d;d;d;d;d ;d", 24);
        due(2, "d;d;d;d;d;d;d;d;d;d;d;dd", 23);
        due(2, "x", 0);
    }

    /** What stood behind the end of a tape is no part of it. */
    private static void shortened() {
        String[][] texts = {{"h0 ", "h0"}, {"d ;", "d"}, {"y:12345", "y:1234"}, {"x;x;pl1", "x;x;pl"}, {"x;x;p;", "x;x;p"}};
        for (String[] text : texts) {
            for (int sort = 0; sort < 3; sort++) {
                FirstTimes x = new FirstTimes();
                Told.feed(x, text[0]);
                x.end(text[1].length());
                Told.due("fault " + sort + " of '" + text[0] + "' cut", x.fault(sort),
                        Told.fault(new FirstTimes(), sort, text[1]));
            }
        }
    }

    private static void randomTexts() {
        Grammar tastes = Grammar.ofTastes();
        Grammar plans = Grammar.ofPlans();
        for (int i = 0; i < 4000; i++) {
            String taste = scribble("vrdgmlh0123456789[](!)+-*/=<>&|?;y: ", TASTES);
            due(1, taste, tastes.fault(taste));
            String plan = scribble("hstd0123456789,; ", PLANS);
            due(2, plan, plans.fault(plan));
        }
        for (int i = 0; i < 60000; i++) {
            String market = scribble("xpscvrmglabp0123456789; ", MARKETS);
            due(0, market, marketFault(market));
        }
    }

    private static final String[] TASTES = {
        "y:v", "y:!(h>1)?[m-g*2]/9;y:0", "y:v=1&r>2|!g<3?2;y:12", "y:[[[[v+1]]]]*2-d", "y:((v<2|h=0)&m>3)?v*2",
        "y:!!!!!(l=1)?1", "y:[[[[[[1]]]]]]", "y:1234", "y:(((((v=[1])))))?l",
    };
    private static final String[] PLANS = {
        "d", "h01;s012,99;t012;d", "d;d;d;d;d;d;d;d;d;d;d;d", "s012,9;s345,12", "h 0 1 ; d ; d;d;d;d;d;d;d;d;d",
    };
    private static final String[] MARKETS = {
        "x;x;p", "xv10;xv20r1;xv6;pm9;pm30l1;sa0b1p5;sa1b2p9;ca0b2", "x;x;x;x;x;x;x;p;p;p;p;p",
        " x v 99 r 9 ; x ; p m 99 g 99 l 8 ; s a 1 b 0 p 9 ; c a 0 b 1 ", "x;x;p;s;s;s;s;s;s;s;s;s", "x;x;p;c;c;c;c;c",
        "x;xr9;pl1;pl08;sp09", "x;x;x;pl2;sb2;cb2",
    };

    /** A text that is right or nearly so: some places of a right one changed, put in or taken out. */
    private static String scribble(String signs, String[] right) {
        StringBuilder s = new StringBuilder(right[RANDOM.nextInt(right.length)]);
        int changes = RANDOM.nextInt(4);
        for (int i = 0; i < changes; i++) {
            int at = RANDOM.nextInt(s.length() + 1);
            char c = signs.charAt(RANDOM.nextInt(signs.length()));
            int sort = RANDOM.nextInt(4);
            if (sort == 0 && at < s.length()) {
                s.deleteCharAt(at);
            } else if (sort == 1 && at < s.length()) {
                s.setCharAt(at, c);
            } else if (sort == 2) {
                s.insert(at, c);
            } else {
                s.setLength(at);
            }
        }
        return s.toString();
    }

    private static final Pattern CLAUSE = Pattern.compile(" *([xpsc])");
    private static final Pattern ITEM = Pattern.compile(" *([a-z])");
    private static final Pattern NUMBER = Pattern.compile(" *([0-9]{1,3})");
    private static final Pattern BLANKS = Pattern.compile(" *");

    /** Markets by patterns. */
    private static int marketFault(String text) {
        int[] counts = new int[4];
        int[] most = {8, 6, 10, 6};
        String[] letters = {"vr", "mgl", "abp", "ab"};
        int[][] low = {{0, 0}, {0, 0, 0}, {0, 0, 1}, {0, 0}};
        int[][] high = {{99, 9}, {99, 99, 8}, {7, 7, 9}, {7, 7}};
        java.util.List<int[]> pairs = new java.util.ArrayList<>();
        java.util.List<Integer> likes = new java.util.ArrayList<>();
        int at = 0;
        while (true) {
            Matcher clause = at(CLAUSE, text, at);
            if (clause == null) {
                return blanks(text, at);
            }
            int kind = "xpsc".indexOf(clause.group(1));
            counts[kind]++;
            if (counts[kind] > most[kind]) {
                return clause.start(1);
            }
            at = clause.end();
            int[] told = {NONE, NONE, NONE};
            Matcher item = at(ITEM, text, at);
            while (item != null) {
                int i = letters[kind].indexOf(item.group(1));
                if (i < 0 || told[i] != NONE) {
                    return item.start(1);
                }
                Matcher number = at(NUMBER, text, item.end());
                if (number == null) {
                    return blanks(text, item.end());
                }
                int n = Integer.parseInt(number.group(1));
                boolean third = number.group(1).length() == 3;
                if (third || n < low[kind][i] || n > high[kind][i]) {
                    return number.end() - 1;
                }
                told[i] = n;
                at = number.end();
                item = at(ITEM, text, at);
            }
            if (kind >= 2) {
                pairs.add(new int[] {told[0] == NONE ? 0 : told[0], told[1] == NONE ? 1 : told[1]});
            }
            if (kind == 1 && told[2] != NONE && told[2] != 8) {
                likes.add(told[2]);
            }
            at = blanks(text, at);
            if (at == text.length()) {
                break;
            }
            if (text.charAt(at) != ';') {
                return at;
            }
            at++;
        }
        boolean whole = counts[0] >= 2 && counts[1] >= 1;
        for (int[] p : pairs) {
            whole &= p[0] != p[1] && p[0] < counts[0] && p[1] < counts[0];
        }
        for (int l : likes) {
            whole &= l < counts[0];
        }
        return whole ? NONE : text.length();
    }

    private static Matcher at(Pattern p, String text, int at) {
        Matcher m = p.matcher(text).region(at, text.length());
        return m.lookingAt() ? m : null;
    }

    private static int blanks(String text, int at) {
        return at(BLANKS, text, at).end();
    }
}
