/** The sentences of Terms 1 that name a bound of a text, each at the bound and just beyond it. */
public final class TextBoundsTest {
    private static final int NONE = FirstTimes.NONE;
    private static final String KINDS = "xpsc";
    private static final String[] LETTERS = {"vr", "mgl", "abp", "ab"};
    private static final String EIGHT = "x;x;x;x;x;x;x;x;p";

    private TextBoundsTest() {
    }

    public static void main(String[] args) {
        countsOfClauses();
        orderOfClauses();
        itemsOnce();
        digitsOfItems();
        numbersOfThings();
        numbersOfPersons();
        numbersOfSpoils();
        numbersOfComings();
        fullMarket();
        fourTastes();
        clausesOfTastes();
        numbersInTastes();
        sums();
        lettersInTastes();
        conditions();
        nesting();
        heldAbove();
        heldBelow();
        division();
        worths();
        fourPlans();
        stepsOfPlans();
        digitsOfSteps();
        blanks();
        firstFault();
        endedTooEarly();
        missing();
        alone();
        likings();
        outOfBounds();
        digitsTooMany();
        oneTooMany();
        stepsOfNobody();
        fullTapes();
        Told.close("TextBoundsTest");
    }

    private static void sentence(String words) {
        Told.sentence("Terms 1", words);
    }

    private static void due(String what, Object got, Object want) {
        Told.due(what, got, want);
    }

    private static void fault(int sort, String text, int want) {
        due("fault " + sort + " of '" + text + "'", Told.fault(new FirstTimes(), sort, text), want);
    }

    private static void right(int sort, String text) {
        fault(sort, text, NONE);
    }

    /** Right with as many, and at fault at the one more, which stands alone behind the last ; of the text. */
    private static void most(int sort, String ahead, String one, int n) {
        String full = ahead + (";" + one).repeat(n);
        right(sort, full);
        fault(sort, full + ";" + one, full.length() + 1);
    }

    private static void countsOfClauses() {
        sentence("x (a THING; 2 .. 8)");
        fault(0, "p", 1);
        fault(0, "p;x", 3);
        right(0, "p;x;x");
        due("two", Told.text(new FirstTimes(), 0, "p;x;x"), 2);
        due("eight", Told.text(new FirstTimes(), 0, EIGHT), 8);
        most(0, "p", "x", 8);
        sentence("p (a PERSON; 1 .. 6)");
        fault(0, "x;x", 3);
        due("one", Told.market("x;x;p").count(1), 1);
        due("six", Told.market("x;x;p;p;p;p;p;p").count(1), 6);
        most(0, "x;x", "p", 6);
        sentence("s (a SPOIL; none to 10)");
        due("none", Told.market("x;x;p").count(2), 0);
        due("ten", Told.market("x;x;p;s;s;s;s;s;s;s;s;s;s").count(2), 10);
        most(0, "x;x;p", "s", 10);
        sentence("c (a COMING; none to 6)");
        due("none", Told.market("x;x;p").count(3), 0);
        due("six", Told.market("x;x;p;c;c;c;c;c;c").count(3), 6);
        most(0, "x;x;p", "c", 6);
    }

    private static void orderOfClauses() {
        sentence("in any order");
        right(0, "c;s;p;x;x");
        right(0, "s;x;c;x;p");
        right(0, "x;p;x");
        FirstTimes x = Told.market("sa1b0p3;xv1;p;s;xv2;ca1b0");
        due("things by their order", x.thing(1, 0), 2);
        due("spoils by their order", x.spoil(1, 2), 5);
        due("comings", x.coming(0, 0), 1);
        sentence("then ITEMS, none or more");
        right(0, "x;x;p;s;c");
        right(0, "xr1v1;xv1r1;pl1g1m1;sp1b1a0;cb1a0");
        fault(0, "v1x;x;p", 0);
        fault(0, "x;x;p;1", 6);
    }

    private static String fit(char letter) {
        return letter == 'a' ? "0" : "1";
    }

    private static void itemsOnce() {
        sentence("a letter, each once at most in a CLAUSE");
        for (int kind = 0; kind < 4; kind++) {
            for (char letter : LETTERS[kind].toCharArray()) {
                String item = letter + fit(letter);
                right(0, "x;x;p;" + KINDS.charAt(kind) + item + ";" + KINDS.charAt(kind) + item);
                fault(0, "x;x;p;" + KINDS.charAt(kind) + item + item, 9);
                char other = LETTERS[kind].charAt(LETTERS[kind].charAt(0) == letter ? 1 : 0);
                fault(0, "x;x;p;" + KINDS.charAt(kind) + item + other + fit(other) + item, 11);
            }
        }
    }

    private static void digitsOfItems() {
        sentence("and a number (one or two digits)");
        for (int kind = 0; kind < 4; kind++) {
            for (char letter : LETTERS[kind].toCharArray()) {
                String clause = "x;x;p;" + KINDS.charAt(kind) + letter;
                fault(0, clause, 8);
                fault(0, clause + ";x", 8);
                right(0, clause + fit(letter));
                right(0, clause + "0" + fit(letter));
                fault(0, clause + "00" + fit(letter), 10);
                fault(0, clause + "-1", 8);
            }
        }
    }

    /** What two clauses of a text tell of an item, told at its two bounds. */
    private static void bounds(String what, int least, int leastDue, int most, int mostDue) {
        due(what + " at its least", least, leastDue);
        due(what + " at its most", most, mostDue);
    }

    private static void numbersOfThings() {
        sentence("v VALUE (0 .. 99; 10 without)");
        FirstTimes x = Told.market("xv0;xv99;x;p");
        bounds("VALUE", x.thing(0, 0), 0, x.thing(1, 0), 99);
        due("without", x.thing(2, 0), 10);
        due("without, behind one with", Told.market("xv7;x;p").thing(1, 0), 10);
        fault(0, "x;x;p;xv100", 10);
        sentence("r RISE a DAY (0 .. 9; 0)");
        x = Told.market("xr0;xr9;x;p");
        bounds("RISE", x.thing(0, 1), 0, x.thing(1, 1), 9);
        due("without", x.thing(2, 1), 0);
        fault(0, "x;x;p;xr10", 9);
        fault(0, "x;x;p;xr99", 9);
    }

    private static void numbersOfPersons() {
        sentence("m MONEY (0 .. 99; 20)");
        FirstTimes x = Told.market("x;x;pm0;pm99;p");
        bounds("MONEY", x.person(0, 0), 0, x.person(1, 0), 99);
        due("without", x.person(2, 0), 20);
        fault(0, "x;x;p;pm100", 10);
        sentence("g AGE (0 .. 99; 20)");
        x = Told.market("x;x;pg0;pg99;p");
        bounds("AGE", x.person(0, 1), 0, x.person(1, 1), 99);
        due("without", x.person(2, 1), 20);
        fault(0, "x;x;p;pg100", 10);
        sentence("l which THING it LIKES (0 .. 8; 8: none; 8)");
        x = Told.market(EIGHT + "l0;pl7;pl8;p");
        bounds("LIKES", x.person(0, 2), 0, x.person(1, 2), 7);
        due("8", x.person(2, 2), NONE);
        due("without", x.person(3, 2), NONE);
        due("liked", x.joy(1, 7, 0), 20);
        for (int t = 0; t < 8; t++) {
            due("none is liked by 8", x.joy(2, t, 0), 10);
        }
        right(0, EIGHT + "l08");
        fault(0, EIGHT + "l9", 18);
        fault(0, EIGHT + "l09", 19);
        fault(0, EIGHT + "l10", 19);
    }

    private static void numbersOfSpoils() {
        sentence("of s: a, b THINGS (0 .. 7; 0 and 1)");
        FirstTimes x = Told.market(EIGHT + ";sa0b7;sa7b0;s");
        bounds("a", x.spoil(0, 0), 0, x.spoil(1, 0), 7);
        bounds("b", x.spoil(1, 1), 0, x.spoil(0, 1), 7);
        due("a without", x.spoil(2, 0), 0);
        due("b without", x.spoil(2, 1), 1);
        fault(0, EIGHT + ";sa8", 20);
        fault(0, EIGHT + ";sb8", 20);
        fault(0, EIGHT + ";sa10", 21);
        fault(0, EIGHT + ";sb10", 21);
        sentence("p PARTS of ten (1 .. 9; 5)");
        x = Told.market("x;x;p;sp1;sp9;s");
        bounds("PARTS", x.spoil(0, 2), 1, x.spoil(1, 2), 9);
        due("without", x.spoil(2, 2), 5);
        fault(0, "x;x;p;sp0", 8);
        fault(0, "x;x;p;sp00", 9);
        fault(0, "x;x;p;sp10", 9);
    }

    private static void numbersOfComings() {
        sentence("of c: a, b THINGS (0 .. 7; 0 and 1)");
        FirstTimes x = Told.market(EIGHT + ";ca0b7;ca7b0;c");
        bounds("a", x.coming(0, 0), 0, x.coming(1, 0), 7);
        bounds("b", x.coming(1, 1), 0, x.coming(0, 1), 7);
        due("a without", x.coming(2, 0), 0);
        due("b without", x.coming(2, 1), 1);
        fault(0, EIGHT + ";ca8", 20);
        fault(0, EIGHT + ";cb8", 20);
        fault(0, EIGHT + ";ca10", 21);
        fault(0, EIGHT + ";cb10", 21);
        fault(0, EIGHT + ";cp1", 19);
    }

    /** As many of each as can be, each with numbers of its own, so that none could stand in another one's place. */
    private static void fullMarket() {
        sentence("in any order, then ITEMS, none or more");
        int[] most = {8, 6, 10, 6};
        int[] items = {2, 3, 3, 2};
        StringBuilder text = new StringBuilder();
        for (int i = 0; i < 10; i++) {
            for (int kind = 3; kind >= 0; kind--) {
                if (i < most[kind]) {
                    text.append(text.length() == 0 ? "" : ";").append(KINDS.charAt(kind));
                    for (int item = 0; item < items[kind]; item++) {
                        text.append(LETTERS[kind].charAt(item)).append(number(kind, i, item));
                    }
                }
            }
        }
        FirstTimes x = Told.market(text.toString());
        for (int kind = 0; kind < 4; kind++) {
            due("so many", x.count(kind), most[kind]);
            for (int i = 0; i < most[kind]; i++) {
                for (int item = 0; item < items[kind]; item++) {
                    due("told of " + KINDS.charAt(kind) + i, told(x, kind, i, item), number(kind, i, item));
                }
            }
        }
    }

    private static int number(int kind, int i, int item) {
        if (kind >= 2) {
            return item == 0 ? i % 8 : item == 1 ? (i + 3) % 8 : 1 + i % 9;
        }
        return kind == 1 && item == 2 ? i + 2 : (i + 3 * item + kind) % 10;
    }

    private static int told(FirstTimes x, int kind, int i, int item) {
        switch (kind) {
            case 0: return x.thing(i, item);
            case 1: return x.person(i, item);
            case 2: return x.spoil(i, item);
            default: return x.coming(i, item);
        }
    }

    private static void fourTastes() {
        sentence("TASTES (4 at most) are TEXTS");
        FirstTimes x = Told.market("x;x;p");
        for (int i = 0; i < 4; i++) {
            due("taste", Told.text(x, 1, "y:6" + i), i);
        }
        due("the fifth", Told.text(x, 1, "y:65"), NONE);
        due("it has no fault", x.fault(1), NONE);
        due("there are four", x.count(4), 4);
        for (int i = 0; i < 4; i++) {
            due("each may hold", x.taste(i), true);
            due("each is as it was", x.joy(0, 0, 0), 60 + i);
        }
        due("no fifth", x.taste(4), false);
    }

    private static void clausesOfTastes() {
        sentence("CLAUSES with ; between, one at least: y, : , perhaps CONDITION ?, then SUM.");
        fault(1, "", 0);
        right(1, "y:1");
        fault(1, ";y:1", 0);
        fault(1, "y:1;", 4);
        fault(1, "y:1;;y:1", 4);
        fault(1, "y:1y:1", 3);
        fault(1, "y1", 1);
        fault(1, "y:?1", 2);
        fault(1, "y:1=1", 5);
        fault(1, "y:1=1?", 6);
        right(1, "y:1=1?1");
        fault(1, "y:1?1", 3);
        right(1, "y:1;".repeat(59) + "y:1");
        due("sixty clauses", worth("y:0=1?1;".repeat(29) + "y:9"), 9);
    }

    /** The whole of a thing of value 7 and rise 3, on day 2, to one of 43 with 41 that likes it. */
    private static int worth(String taste) {
        FirstTimes x = Told.market("xv7r3;x;pm41g41l0;p");
        x.days(2);
        due("the taste " + taste, Told.text(x, 1, taste), 0);
        x.taste(0);
        return x.joy(0, 0, 0);
    }

    private static void worth(String taste, int want) {
        due(taste, worth(taste), want);
    }

    private static void numbersInTastes() {
        sentence("ATOM: a number (1 to 4 digits), a letter (v r d g m l h), [ SUM ].");
        fault(1, "y:", 2);
        fault(1, "y:+1", 2);
        worth("y:1", 1);
        worth("y:9999-9990", 9);
        worth("y:0007", 7);
        fault(1, "y:00007", 6);
        fault(1, "y:12345", 6);
        fault(1, "y:v+12345", 8);
        right(1, "y:v+1234");
        fault(1, "y:[]", 3);
        fault(1, "y:[1", 4);
        fault(1, "y:1]", 3);
        fault(1, "y:[1)", 4);
        fault(1, "y:vr", 3);
        fault(1, "y:v1", 3);
        fault(1, "y:1v", 3);
    }

    private static void sums() {
        sentence("SUM: TERMS with + or - between; TERM: ATOMS with * or / between;");
        worth("y:1+2*3", 7);
        worth("y:20-2*3-4*2", 6);
        worth("y:20-6-5", 9);
        worth("y:100/7*7", 98);
        worth("y:100*7/8/9", 9);
        worth("y:2*3+4*5-6/2", 23);
        worth("y:[1+2]*3", 9);
        worth("y:20-[6-5]", 19);
        fault(1, "y:1-", 4);
        fault(1, "y:1*+2", 4);
        fault(1, "y:1--2", 4);
        fault(1, "y:-2", 2);
    }

    private static void lettersInTastes() {
        sentence("a letter (v r d g m l h)");
        String letters = "vrdgmlh";
        int[] want = {7, 3, 2, 43, 41, 1, 0};
        for (int i = 0; i < 7; i++) {
            worth("y:" + letters.charAt(i), want[i]);
        }
        for (char c = 0; c < 256; c++) {
            if (letters.indexOf(c) < 0 && "0123456789[(! ".indexOf(c) < 0 && c != 0) {
                fault(1, "y:" + c, 2);
            }
        }
    }

    private static void conditions() {
        sentence("CONDITION: TRUTHS with | between; TRUTH: UNITS with & between; UNIT: ! UNIT, ( CONDITION ), or SUM, one "
                + "of = < >, SUM.");
        fault(1, "y:|1=1?1", 2);
        fault(1, "y:1=1|?1", 6);
        fault(1, "y:1=1&?1", 6);
        fault(1, "y:1=1|&1=1?1", 6);
        fault(1, "y:!?1", 3);
        fault(1, "y:()?1", 3);
        fault(1, "y:(1=1?1", 6);
        fault(1, "y:1=1)?1", 5);
        fault(1, "y:1=?1", 4);
        fault(1, "y:=1?1", 2);
        fault(1, "y:1=1=1?1", 5);
        fault(1, "y:1==1?1", 4);
        worth("y:1=1|1=1&1=2?5;y:6", 5);
        worth("y:1=2&1=1|1=1?5;y:6", 5);
        worth("y:1=2|1=1&1=2?5;y:6", 6);
        worth("y:1=2|1=2|1=1?5;y:6", 5);
        worth("y:1=1&1=1&1=2?5;y:6", 6);
        worth("y:(1=1|1=1)&1=2?5;y:6", 6);
        worth("y:1=1|1=2|1=2?5;y:6", 5);
        worth("y:1=2|1=1|1=2|1=2?5;y:6", 5);
        worth("y:1=2|1=2|1=2|1=2?5;y:6", 6);
        worth("y:1=1&(1=2)?5;y:6", 6);
        worth("y:1=1&(1=2|1=2)?5;y:6", 6);
        worth("y:1=2&(1=1|1=2)?5;y:6", 6);
        worth("y:1=1&(1=2|1=1)?5;y:6", 5);
        worth("y:1=1|(1=2&1=2)?5;y:6", 5);
        worth("y:1=2|(1=1&(1=2|1=1))&1=1?5;y:6", 5);
        worth("y:1=2|(1=1&(1=2|1=1))&1=2?5;y:6", 6);
        worth("y:(1=2|1=1)&(1=1|1=2)&!(1=2|1=2)?5;y:6", 5);
        worth("y:!(1=1)|1=2?5;y:6", 6);
        worth("y:!!(1=1&1=1)?5;y:6", 5);
        worth("y:1<2&1=1?5;y:6", 5);
        worth("y:2>1&1=1?5;y:6", 5);
        worth("y:1=1&1<2?5;y:6", 5);
        worth("y:!1<2?5;y:6", 6);
        worth("y:!2>1?5;y:6", 6);
        worth("y:!1=2&1=1?5;y:6", 5);
        worth("y:!(1=2|1=1)?5;y:6", 6);
        worth("y:2<2?5;y:6", 6);
        worth("y:2>2?5;y:6", 6);
        worth("y:1<2?5;y:6", 5);
        worth("y:2<1?5;y:6", 6);
        worth("y:2>1?5;y:6", 5);
        worth("y:1>2?5;y:6", 6);
        sentence("(A CLAUSE that goes on with ! or ( behind its : has a CONDITION.)");
        fault(1, "y:(1)", 4);
        fault(1, "y:(1)+2", 4);
        fault(1, "y:(1=1)", 7);
        fault(1, "y:(1=1)+1", 7);
        fault(1, "y:!1", 4);
        fault(1, "y:!1=1", 6);
        right(1, "y:(1=1)?1");
        right(1, "y:!1=1?1");
        right(1, "y:[1]");
        fault(1, "y:1=1?!1", 6);
        fault(1, "y:1=1?(1)", 6);
    }

    private static void nesting() {
        sentence("At most six of ( [ ! within one another.");
        worth("y:" + "[".repeat(6) + "5" + "]".repeat(6), 5);
        worth("y:" + "(".repeat(6) + "1=1" + ")".repeat(6) + "?5", 5);
        worth("y:" + "!".repeat(6) + "1=1?5", 5);
        worth("y:" + "!".repeat(5) + "1=1?5;y:6", 6);
        worth("y:!(!([[5]]=5))?5", 5);
        fault(1, "y:" + "[".repeat(7) + "5" + "]".repeat(7), 8);
        fault(1, "y:" + "(".repeat(7) + "1=1" + ")".repeat(7) + "?5", 8);
        fault(1, "y:" + "!".repeat(7) + "1=1?5", 8);
        fault(1, "y:!(!([[[5]]]=5))?5", 8);
        fault(1, "y:!(!(![[5]]=5))?5", 8);
        fault(1, "y:([[[[[1]]]]]=[[[[[1]]]]])?[[[[[[1]]]]]]", NONE);
        fault(1, "y:([[[[[1]]]]]=[[[[[[1]]]]]])?1", 20);
        String six = "[".repeat(6) + "1" + "]".repeat(6);
        String seven = "[" + six + "]";
        worth("y:1=" + six + "?5", 5);
        fault(1, "y:1=" + seven + "?5", 10);
        worth("y:1=1&" + six + "=1?5", 5);
        fault(1, "y:1=1&" + seven + "=1?5", 12);
        worth("y:1=1|!!!!!!1=1?5", 5);
        fault(1, "y:1=1|!!!!!!!1=1?5", 12);
        worth("y:(1=1&!!!!!1=2)?5;y:6", 5);
        fault(1, "y:(1=1&!!!!!!1=2)?5;y:6", 12);
        worth("y:(1=1&[[[[[1]]]]]=1)?5", 5);
        fault(1, "y:(1=1&[[[[[[1]]]]]]=1)?5", 12);
        fault(1, "y:((1=1)&!!!!!!1=2)?5;y:6", 14);
        // One behind another are not within one another.
        worth("y:[1]+[1]+[1]+[1]+[1]+[1]+[1]+[1]", 8);
        worth("y:" + "[".repeat(6) + "5" + "]".repeat(6) + "*" + "[".repeat(6) + "5" + "]".repeat(6), 25);
        worth("y:" + "(1=1)&".repeat(8) + "1=1?5", 5);
        worth("y:" + "!1=2&".repeat(8) + "1=1?5", 5);
        worth("y:" + "!".repeat(6) + "1=1&" + "!".repeat(6) + "1=1|" + "!".repeat(6) + "1=1?5", 5);
        fault(1, "y:" + "!".repeat(6) + "1=1&" + "!".repeat(7) + "1=1?5", 18);
        fault(1, "y:1=1?5;y:" + "[".repeat(6) + "5" + "]".repeat(6), NONE);
        fault(1, "y:1=1?5;y:" + "[".repeat(7) + "5" + "]".repeat(7), 16);
    }

    private static void heldAbove() {
        sentence("Behind each sign numbers are within -1,000,000 .. 1,000,000");
        String million = "1000*1000";
        String less = "-999*1000-999";
        worth("y:" + million + less, 1);
        worth("y:101*9901" + less, 1);
        worth("y:1001*1000" + less, 1);
        worth("y:999*1000+1000" + less, 1);
        worth("y:999*1000+1001" + less, 1);
        worth("y:" + million + "+1" + less, 1);
        worth("y:0-[0-" + million + "]" + less, 1);
        worth("y:1-[0-" + million + "]" + less, 1);
        worth("y:[0-" + million + "]/[0-1]" + less, 1);
        // A product beyond 32 bits goes round nowhere.
        worth("y:" + million + "*[" + million + "]" + less, 1);
        worth("y:[0-" + million + "]*[0-" + million + "]" + less, 1);
        worth("y:" + million + "*4295" + less, 1);
        worth("y:" + million + "+1=" + million + "?5;y:6", 5);
        worth("y:" + million + "+1>" + million + "?5;y:6", 6);
        worth("y:" + million + ">999*1000+999?5;y:6", 5);
    }

    private static void heldBelow() {
        sentence("Behind each sign numbers are within -1,000,000 .. 1,000,000");
        String lowest = "[0-1000*1000]";
        String more = "+999*1000+1000+5";
        worth("y:" + lowest + more, 5);
        worth("y:[0-101]*9901" + more, 5);
        worth("y:101*[0-9901]" + more, 5);
        worth("y:" + lowest + "-1" + more, 5);
        worth("y:0-999*1000-1000" + more, 5);
        worth("y:0-999*1000-1001" + more, 5);
        worth("y:" + lowest + "+[0-1]" + more, 5);
        worth("y:" + lowest + "*[1000*1000]" + more, 5);
        worth("y:[1000*1000]*" + lowest + more, 5);
        worth("y:" + lowest + "*4295" + more, 5);
        worth("y:" + lowest + "-1=" + lowest + "?5;y:6", 5);
        worth("y:" + lowest + "-1<" + lowest + "?5;y:6", 6);
    }

    private static void division() {
        sentence("/ cuts towards 0, by 0 gives 0.");
        worth("y:7/2", 3);
        worth("y:[0-7]/2+10", 7);
        worth("y:7/[0-2]+10", 7);
        worth("y:[0-7]/[0-2]", 3);
        worth("y:[0-1]/2+4", 4);
        worth("y:1/2", 0);
        worth("y:8/2", 4);
        worth("y:5/0", 0);
        worth("y:5/0+4", 4);
        worth("y:0/0+4", 4);
        worth("y:[0-5]/0+4", 4);
        worth("y:9/[v-7]+4", 4);
        worth("y:9/[v-6]+4", 13);
        worth("y:9/h*9+4", 4);
    }

    private static void worths() {
        sentence("WORTH: the SUM of the first CLAUSE whose CONDITION holds (or has none), 0 without.");
        worth("y:1=2?5", 0);
        worth("y:1=2?5;y:3=4?6", 0);
        worth("y:1=1?5;y:6", 5);
        worth("y:1=2?5;y:1=1?6;y:1=1?7", 6);
        worth("y:1=2?5;y:6;y:7", 6);
        worth("y:5;y:6", 5);
        worth("y:0;y:6", 0);
        worth("y:1=1?0;y:6", 0);
        worth("y:0-1;y:6", 0);
        worth("y:1=1?0-1;y:6", 0);
        worth("y:h=0?5;y:6", 5);
        worth("y:h<0|h>0?5;y:6", 6);
    }

    private static void fourPlans() {
        sentence("PLANS (4 at most) are TEXTS");
        FirstTimes x = new FirstTimes();
        for (int i = 0; i < 4; i++) {
            due("plan", Told.text(x, 2, "h0" + i), i);
        }
        due("the fifth", Told.text(x, 2, "h09"), NONE);
        due("it has no fault", x.fault(2), NONE);
        due("there are four", x.count(5), 4);
        for (int i = 0; i < 4; i++) {
            due("each is as it was", x.step(i, 0, 3), i);
        }
        due("no fifth", x.step(4, 0, 0), NONE);
    }

    private static void stepsOfPlans() {
        sentence("STEPS with ; between, 1 to 12:");
        fault(2, "", 0);
        fault(2, ";", 0);
        right(2, "d");
        fault(2, "d;", 2);
        fault(2, "d;;d", 2);
        fault(2, "dd", 1);
        String twelve = "d;".repeat(11) + "h25";
        FirstTimes x = new FirstTimes();
        due("twelve", Told.text(x, 2, twelve), 0);
        due("the twelfth", x.step(0, 11, 3), 5);
        due("no thirteenth", x.step(0, 12, 0), NONE);
        fault(2, twelve + ";d", twelve.length());
        fault(2, twelve + "d", twelve.length());
        due("one", Told.text(x, 2, "d"), 1);
        due("the first", x.step(1, 0, 0), 3);
        due("no second", x.step(1, 1, 0), NONE);
    }

    private static void digitsOfSteps() {
        sentence("h and two digits (PERSON, THING: it HAS it)");
        fault(2, "h", 1);
        fault(2, "h0", 2);
        right(2, "h00");
        right(2, "h99");
        fault(2, "h000", 3);
        sentence("s and three digits and a number of one or two digits behind a , (PERSON, other PERSON, THING, PRICE: it "
                + "SELLS it)");
        fault(2, "s", 1);
        fault(2, "s0", 2);
        fault(2, "s00", 3);
        fault(2, "s00,1", 3);
        fault(2, "s000", 4);
        fault(2, "s0000", 4);
        fault(2, "s0001", 4);
        fault(2, "s000,", 5);
        right(2, "s000,0");
        right(2, "s999,99");
        fault(2, "s000,000", 7);
        fault(2, "s000,100", 7);
        FirstTimes x = new FirstTimes();
        Told.text(x, 2, "s123,0;s987,99;s000,09");
        due("0", x.step(0, 0, 4), 0);
        due("99", x.step(0, 1, 4), 99);
        due("09", x.step(0, 2, 4), 9);
        sentence("t and three digits (PERSON, other PERSON, THING: it STEALS it of that one)");
        fault(2, "t", 1);
        fault(2, "t0", 2);
        fault(2, "t00", 3);
        right(2, "t000");
        right(2, "t999");
        fault(2, "t0000", 4);
        fault(2, "t000,1", 4);
        sentence("d (a DAY)");
        right(2, "d");
        fault(2, "d0", 1);
        fault(2, "d,1", 1);
    }

    private static void blanks() {
        sentence("Blanks (32) may stand between all signs of all, not within numbers (between letters and digits of a STEP "
                + "they may).");
        right(0, "  x v 99 r  9 ; x ; p m 9 g 99 l 1 ; s a 0 b 1 p 9 ; c a 0 b 1  ");
        fault(0, "xv9 9;x;p", 4);
        fault(0, "xv1 ;x;p", NONE);
        fault(0, "x;x;pl0 1", 8);
        right(1, " y : ! ( v = 1 & r < 2 | d > 3 ) ? [ g + m ] * l / 12 - h ; y : 1 ");
        fault(1, "y:1 2", 4);
        fault(1, "y:123 4", 6);
        right(2, " h 0 0 ; s 0 0 0 , 12 ; t 0 0 0 ; d ");
        fault(2, "s000,1 2", 7);
        right(2, "s000, 12 ");
        FirstTimes x = new FirstTimes();
        Told.text(x, 2, "h 1 2");
        due("its thing", x.step(0, 0, 3), 2);
        for (int other : new int[] {1, 9, 10, 13, 31, 33, 95, 127, 160, 255}) {
            fault(0, "x" + (char) other + ";x;p", 1);
            fault(1, "y" + (char) other + ":1", 1);
            fault(2, "h" + (char) other + "00", 1);
        }
    }

    private static void firstFault() {
        sentence("FAULT: the first byte at which no such TEXT can go on");
        fault(0, "y", 0);
        fault(0, "x;x;p;y", 6);
        fault(0, "x;x;p,x", 5);
        fault(0, "q;r10", 0);
        fault(0, "xr10;q", 3);
        fault(0, "x;x;p;sa0b0;q", 12);
        fault(0, "x;x;pl7;q", 8);
        fault(0, "x;x;p;s;s;s;s;s;s;s;s;s;s;c;s;q", 28);
        fault(1, "y:1;x", 4);
        fault(1, "y:1+;y:[", 4);
        fault(2, "d;x", 2);
        fault(2, "h0;d0", 2);
        right(0, "x;x;p");
        right(1, "y:1");
        right(2, "d");
    }

    private static void endedTooEarly() {
        sentence("(the length, if it ends too early");
        String[] markets = {"", " ", "x;x;p;", "x;x;p; ", "x;x;p;xv", "x;x;p;xv ", "x;x;p;s a", "x", "x;"};
        for (String text : markets) {
            fault(0, text, text.length());
        }
        String[] tastes = {"", "  ", "y", "y ", "y:", "y:1+", "y:1* ", "y:[1", "y:[1+2 ", "y:1=", "y:1=1", "y:1=1 ", "y:1=1?",
            "y:1=1&", "y:!", "y:!1", "y:(", "y:(1", "y:(1=1", "y:(1=1)", "y:(1=1) ", "y:1;", "y:1; "};
        for (String text : tastes) {
            fault(1, text, text.length());
        }
        String[] plans = {"", " ", "h", "h ", "h0", "h0 ", "s", "s0", "s00", "s000", "s000 ", "s000,", "s000, ", "t", "t0", "t00",
            "t00 ", "d;", "d; "};
        for (String text : plans) {
            fault(2, text, text.length());
        }
    }

    private static void missing() {
        sentence("with fewer than two THINGS");
        fault(0, "p;s", 3);
        fault(0, "x;p ", 4);
        fault(0, "p;xv5r5 ", 8);
        right(0, "p;xv5r5;x ");
        sentence("without a PERSON");
        fault(0, "x;x", 3);
        fault(0, "x;x;x;x;x;x;x;x;s;c ", 20);
        right(0, "x;x;x;x;x;x;x;x;s;c;p");
    }

    private static void alone() {
        sentence("with a SPOIL or a COMING of one THING alone or of one that is not told");
        for (String kind : new String[] {"s", "c"}) {
            for (String items : new String[] {"a1", "b0", "a0b0", "a1b1", "b1a1"}) {
                fault(0, "x;x;p;" + kind + items, 7 + items.length());
                fault(0, "x;x;" + kind + items + ";p ", 8 + items.length());
                fault(0, "x;x;p;" + kind + ";" + kind + items, 9 + items.length());
            }
            for (String items : new String[] {"a2", "b2", "a7", "b7", "a2b0", "a1b2"}) {
                fault(0, "x;x;p;" + kind + items, 7 + items.length());
                fault(0, "x;x;" + kind + items + ";p ", 8 + items.length());
            }
            right(0, "x;x;p;" + kind);
            right(0, "x;x;p;" + kind + "a1b0");
            right(0, kind + "b2;x;x;p;x");
            right(0, kind + "a2b1;x;x;p;x");
            right(0, "x;x;x;x;x;x;x;x;p;" + kind + "a7b6");
            right(0, "x;x;x;x;x;x;x;x;p;" + kind + "a6b7");
            fault(0, "x;x;x;x;x;x;x;p;" + kind + "a7b6", 21);
            fault(0, "x;x;x;x;x;x;x;p;" + kind + "a6b7", 21);
        }
    }

    private static void likings() {
        sentence("with a PERSON that LIKES one that is not told");
        right(0, "x;x;pl0");
        right(0, "x;x;pl1");
        fault(0, "x;x;pl2", 7);
        fault(0, "x;x;pl7 ", 8);
        fault(0, "x;x;pl2;p;pl1", 13);
        right(0, "x;x;pl2;p;pl1;x");
        right(0, "x;x;pl8");
        fault(0, "x;x;x;x;x;x;x;pl7", 17);
        right(0, "x;x;x;x;x;x;x;x;pl7");
    }

    private static void outOfBounds() {
        sentence("a number out of bounds is wrong at its last digit");
        fault(0, "xr10;x;p", 3);
        fault(0, "xr 10;x;p", 4);
        fault(0, "x;x;pl9", 6);
        fault(0, "x;x;pl09", 7);
        fault(0, "x;x;pl99", 7);
        fault(0, "x;x;p;sp0", 8);
        fault(0, "x;x;p;sp00", 9);
        fault(0, "x;x;p;sp10", 9);
        fault(0, "x;x;p;sp99", 9);
        fault(0, "x;x;p;sa8", 8);
        fault(0, "x;x;p;sb9", 8);
        fault(0, "x;x;p;sa08", 9);
        fault(0, "x;x;p;ca8", 8);
        fault(0, "x;x;p;cb88", 9);
        right(0, "xr09;x;pl01;sa00b01p09;ca00b01");
    }

    private static void digitsTooMany() {
        sentence("a third digit (a fifth one in a TASTE) itself, whatever stands ahead of it");
        fault(0, "xv000;x;p", 4);
        fault(0, "xv999;x;p", 4);
        fault(0, "xv9999;x;p", 4);
        fault(0, "xr000;x;p", 4);
        fault(0, "xr999;x;p", 4);
        fault(0, "xr100;x;p", 4);
        fault(0, "x;x;pm000", 8);
        fault(0, "x;x;pl999", 8);
        fault(0, "x;x;pl000", 8);
        fault(0, "x;x;p;sp000", 10);
        fault(0, "x;x;p;sp990", 10);
        fault(0, "x;x;p;sa880", 10);
        fault(0, "x;x;p;ca000", 10);
        fault(1, "y:00000", 6);
        fault(1, "y:99999", 6);
        fault(1, "y:999999", 6);
        right(1, "y:9999");
        fault(1, "y:1=11111?1", 8);
        fault(2, "s000,000", 7);
        fault(2, "s000,999", 7);
        right(2, "s000,99");
    }

    private static void oneTooMany() {
        sentence("a letter that was there");
        fault(0, "xv1v;x;p", 3);
        fault(0, "xv1 v1;x;p", 4);
        fault(0, "xr1v1r1;x;p", 5);
        sentence("a ninth x, a seventh p, an eleventh s, a seventh c");
        fault(0, "x;x;x;x;x;x;x;x; x", 17);
        fault(0, "x;x;x;x;x;x;x;x;xq", 16);
        fault(0, "p;p;p;p;p;p; p", 13);
        fault(0, "s;s;s;s;s;s;s;s;s;s; s", 21);
        fault(0, "c;c;c;c;c;c; c", 13);
        sentence("the ; ahead of a 13th STEP");
        fault(2, "d;d;d;d;d;d;d;d;d;d;d;d;", 23);
        fault(2, "d;d;d;d;d;d;d;d;d;d;d;d ;d", 24);
        fault(2, "d;d;d;d;d;d;d;d;d;d;d;h00 ; x", 26);
        right(2, "d;d;d;d;d;d;d;d;d;d;d;d ");
        fault(2, "d;d;d;d;d;d;d;d;d;d;d;", 22);
        sentence("a seventh of ( [ ! at it");
        fault(1, "y:[[[[[[ [", 9);
        fault(1, "y:(((((( (", 9);
        fault(1, "y:!!!!!! !", 9);
        fault(1, "y:!!!!!! [", 9);
        fault(1, "y:!(!(!( [", 9);
        fault(1, "y:[[[[[[", 8);
        fault(1, "y:((((((", 8);
        fault(1, "y:!!!!!!", 8);
    }

    private static void stepsOfNobody() {
        sentence("(A PERSON, a THING of a STEP that is not there is no FAULT: the STEP can't be.)");
        String[] steps = {"h20", "h02", "h99", "s200,0", "s020,0", "s012,0", "s990,0", "t200", "t020", "t012", "t999"};
        for (String step : steps) {
            FirstTimes x = Told.market("x;x;p;p");
            due(step + " is no fault", Told.text(x, 2, step), 0);
            due(step + " can't be", x.run(0, 0), 0);
            due(step + " isn't done", x.perform(0), 0);
        }
        for (String step : new String[] {"h11", "s101,0", "s011,0", "t101", "t011"}) {
            FirstTimes x = Told.market("x;x;p;p");
            due(step, Told.text(x, 2, step), 0);
            due(step + " can be", x.run(0, 0), NONE);
            due(step + " is done", x.perform(0), 1);
        }
    }

    /** Texts as long as a tape can be. */
    private static void fullTapes() {
        Told.sentence("Promise 2", "NONE: more than 240.");
        FirstTimes x = new FirstTimes();
        due("a market", Told.text(x, 0, "x;x;p" + " ".repeat(231) + ";xv9"), 3);
        due("its last byte", x.thing(2, 0), 9);
        due("a taste", Told.text(x, 1, "y:1" + "+1".repeat(117) + " +9"), 0);
        x.taste(0);
        due("its last byte", x.joy(0, 0, 0), 127);
        due("a plan", Told.text(x, 2, "d;h01" + " ".repeat(228) + ";s012,9"), 0);
        due("its last byte", x.step(0, 2, 4), 9);
        fault(0, "x;x;p" + " ".repeat(234) + ";", 240);
        fault(1, "y:1" + " ".repeat(236) + ";", 240);
        fault(2, "d" + " ".repeat(238) + ";", 240);
        fault(1, "y:1" + "+1".repeat(118) + "!", 239);
    }
}
