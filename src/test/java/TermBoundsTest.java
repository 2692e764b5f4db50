import java.math.BigInteger;

/** The sentences of Terms 2 to 4 that name a bound, each at the bound and just beyond it. */
public final class TermBoundsTest {
    private static final int NONE = FirstTimes.NONE;
    private static final String EIGHT = "x;x;x;x;x;x;x;x";
    private static final String SIX = "p;p;p;p;p;p";
    private static final BigInteger ROUND = BigInteger.ONE.shiftLeft(64);

    private TermBoundsTest() {
    }

    public static void main(String[] args) {
        firstsAtFirst();
        wholeByValue();
        wholeByTaste();
        letters();
        spoiltAtMost();
        joyCut();
        having();
        comings();
        comingsInTheirOrder();
        hadAgain();
        selling();
        stealing();
        eightPledges();
        fullState();
        pledgesFallingDue();
        redeeming();
        ages();
        fortyActs();
        logOfAll();
        runs();
        orders();
        ordersOfSeveral();
        cleanRows();
        rings();
        matches();
        sales();
        waits();
        waitsCut();
        repeats();
        habits();
        habitsOfSeveral();
        founds();
        musts();
        claims();
        firstOrAtOnce();
        aheadForSure();
        yearsOfDraws();
        draws();
        manyDays();
        theft();
        richest();
        joysOfAll();
        lastOnes();
        images();
        Told.close("TermBoundsTest");
    }

    private static void sentence(int terms, String words) {
        Told.sentence("Terms " + terms, words);
    }

    private static void due(String what, Object got, Object want) {
        Told.due(what, got, want);
    }

    private static void pass(FirstTimes x, int days) {
        for (int left = days; left > 0; left -= 30) {
            x.days(Math.min(left, 30));
        }
    }

    private static void taste(FirstTimes x, String taste) {
        x.taste(Told.text(x, 1, taste));
    }

    private static void firstsAtFirst() {
        sentence(2, "FIRSTS: how many first times of a THING a PERSON holds: at first one of each.");
        FirstTimes x = Told.market(EIGHT + ";" + SIX);
        for (int p = 0; p < 6; p++) {
            for (int t = 0; t < 8; t++) {
                due("firsts " + p + " " + t, x.firsts(p, t), 1);
            }
        }
    }

    private static void wholeByValue() {
        sentence(2, "(none at first: VALUE and RISE times the DAY, twice that, if it LIKES it), held within 0 .. 999");
        FirstTimes x = Told.market("xv99r9;xv0;xr1;pl0;p");
        due("on day 0", x.joy(1, 0, 0), 99);
        due("0", x.joy(1, 1, 0), 0);
        due("without", x.joy(1, 2, 0), 10);
        pass(x, 44);
        due("liked, on day 44", x.joy(0, 0, 0), 990);
        pass(x, 1);
        due("liked, on day 45", x.joy(0, 0, 0), 999);
        due("not liked, on day 45", x.joy(1, 0, 0), 504);
        pass(x, 54);
        due("on day 99", x.joy(1, 0, 0), 990);
        pass(x, 1);
        due("on day 100", x.joy(1, 0, 0), 999);
        pass(x, 1);
        due("on day 101", x.joy(1, 0, 0), 999);
        due("its joy", x.joy(1, 0, 2), 999);
        due("what it gives", x.have(1, 0), 999);
        due("in the log", x.log(0, 2), 999);
        pass(x, 887);
        due("on day 988", x.joy(1, 2, 0), 998);
        pass(x, 1);
        due("on day 989", x.joy(1, 2, 0), 999);
        pass(x, 1);
        due("on day 990", x.joy(1, 2, 0), 999);
        due("0 for ever", x.joy(1, 1, 0), 0);
    }

    private static void wholeByTaste() {
        sentence(2, "WORTH by the TASTE that holds (none at first: VALUE and RISE times the DAY, twice that, if it LIKES it), "
                + "held within 0 .. 999");
        String[] sums = {"998", "999", "1000", "9999", "1000*1000", "1", "0", "0-1", "0-1000*1000"};
        int[] want = {998, 999, 999, 999, 999, 1, 0, 0, 0};
        for (int i = 0; i < sums.length; i++) {
            FirstTimes x = Told.market("x;x;pl0");
            taste(x, "y:" + sums[i]);
            due(sums[i], x.joy(0, 0, 0), want[i]);
            due("joy of " + sums[i], x.joy(0, 0, 2), want[i]);
            x.taste(NONE);
            due("by none again", x.joy(0, 0, 0), 20);
        }
        FirstTimes x = Told.market("xv60;x;pl0");
        taste(x, "y:v*10");
        due("by a taste not twice", x.joy(0, 0, 0), 600);
    }

    private static void letters() {
        sentence(2, "l whether it LIKES it (1, 0), h how many THINGS it HAD");
        FirstTimes x = Told.market(EIGHT + ";pl7;p");
        taste(x, "y:l*10+h");
        due("it likes it", x.joy(0, 7, 0), 10);
        due("not it", x.joy(0, 6, 0), 0);
        due("who likes none", x.joy(1, 7, 0), 0);
        for (int t = 0; t < 8; t++) {
            x.have(0, t);
            due("behind so many", x.joy(0, 7, 0), 11 + t);
        }
        x.steal(0, 1, 3);
        x.have(0, 3);
        due("one had twice is one thing", x.joy(0, 7, 0), 18);
        due("another one had none", x.joy(1, 7, 0), 0);
    }

    private static void spoiltAtMost() {
        sentence(2, "SPOILT: PARTS of all SPOILS of that THING whose first one it HAD, together, 10 at most.");
        FirstTimes x = Told.market("x;x;x;xv50;p;p;sa0b3p9;sa1b3p1;sa2b3p1;sa3b2p9");
        int[] spoilt = {9, 10, 10};
        int[] joy = {5, 0, 0};
        due("at first", x.joy(0, 3, 1), 0);
        for (int t = 0; t < 3; t++) {
            x.have(0, t);
            due("spoilt", x.joy(0, 3, 1), spoilt[t]);
            due("joy", x.joy(0, 3, 2), joy[t]);
        }
        due("whole", x.joy(0, 3, 0), 50);
        due("to another one", x.joy(1, 3, 1), 0);
        due("had as nothing", x.have(0, 3), 0);
        FirstTimes y = Told.market("x;xv50;p;sp9;sp9;sp9;sp9;sp9;sp9;sp9;sp9;sp9;sp9");
        y.have(0, 0);
        due("by all ten", y.joy(0, 1, 1), 10);
        due("by all ten", y.joy(0, 1, 2), 0);
        FirstTimes z = Told.market("x;xv50;p;sp4;sp5");
        z.have(0, 0);
        due("9", z.joy(0, 1, 1), 9);
        due("9", z.joy(0, 1, 2), 5);
    }

    private static void joyCut() {
        sentence(2, "JOY of it: WHOLE times 10 less SPOILT, by 10, cut.");
        FirstTimes x = Told.market("xv19;xv9;xv10;xv11;x;p;sa4b0p5;sa4b1p9;sa4b2p9;sa4b3p1");
        x.have(0, 4);
        int[] want = {9, 0, 1, 9};
        for (int t = 0; t < 4; t++) {
            due("joy of " + t, x.joy(0, t, 2), want[t]);
        }
        taste(x, "y:999");
        due("half of 999", x.joy(0, 0, 2), 499);
        due("a tenth of 999", x.joy(0, 1, 2), 99);
    }

    private static void having() {
        sentence(2, "A PERSON with a FIRST of a THING HAS it: JOY of it is its own, the FIRST is used, it HAD it from then on.");
        FirstTimes x = Told.market("xv3;x;p;p");
        due("with one", x.have(0, 0), 3);
        due("with none", x.have(0, 0), NONE);
        due("used", x.firsts(0, 0), 0);
        due("its own", Told.person(x, 0, 3), "3");
        due("had", Told.person(x, 0, 4), "1");
        due("not by another one", Told.person(x, 1, 4), "0");
        x.steal(1, 0, 1);
        due("with two", x.have(1, 1), 10);
        due("one is left", x.firsts(1, 1), 1);
        due("with one", x.have(1, 1), 10);
        due("none is left", x.have(1, 1), NONE);
        due("without one", x.have(0, 1), NONE);
    }

    private static void comings() {
        sentence(2, "if it did not HAD it yet and holds a FIRST of it: half of its JOY (as it is then, cut), its FIRST is used, "
                + "it HAD it");
        FirstTimes x = Told.market("x;xv21;p;p;c");
        due("it comes", x.have(0, 0), 20);
        due("its first is used", x.firsts(0, 1), 0);
        due("it had it", Told.person(x, 0, 4), "3");
        x.have(1, 1);
        due("had, and no first", x.have(1, 0), 10);
        FirstTimes y = Told.market("x;xv21;p;p;c");
        y.have(0, 1);
        y.steal(0, 1, 1);
        due("had, with a first", y.have(0, 0), 10);
        due("which is left", y.firsts(0, 1), 1);
        due("no first, not had", y.have(1, 0), 10);
        due("so it had one", Told.person(y, 1, 4), "1");
        FirstTimes z = Told.market("x;xv21;p;p;c");
        z.steal(0, 1, 1);
        due("with two", z.have(0, 0), 20);
        due("one is used", z.firsts(0, 1), 1);
        due("half of 1", Told.market("x;xv1;p;c").have(0, 0), 10);
        due("half of 2", Told.market("x;xv2;p;c").have(0, 0), 11);
        due("half of 3", Told.market("x;xv3;p;c").have(0, 0), 11);
        due("spoilt by what brings it", Told.market("x;xv21;p;c;sp5").have(0, 0), 15);
        FirstTimes w = Told.market("x;x;p;c");
        taste(w, "y:100*[h+1]");
        due("as it is then", w.have(0, 0), 200);
    }

    private static void comingsInTheirOrder() {
        sentence(2, "and what comes with that comes at once ahead of others");
        FirstTimes x = Told.market("x;x;x;x;p;ca0b1;ca0b2;ca1b3");
        due("all", x.have(0, 0), 25);
        int[] order = {2, 3, 1, 0};
        for (int i = 0; i < 4; i++) {
            due("the latest " + i, x.log(i, 1), order[i]);
        }
        sentence(2, "Then, by the numbers of COMINGS with it as the first one:");
        FirstTimes y = Told.market("x;x;x;x;p;ca0b3;ca0b1;ca0b2");
        y.have(0, 0);
        int[] byNumbers = {2, 1, 3, 0};
        for (int i = 0; i < 4; i++) {
            due("the latest " + i, y.log(i, 1), byNumbers[i]);
        }
        FirstTimes chain = Told.market(EIGHT + ";p;ca0b1;ca1b2;ca2b3;ca3b4;ca4b5;ca5b6");
        due("six one by one", chain.have(0, 0), 40);
        due("seven are had", chain.count(11), 7);
        due("not the eighth", Told.person(chain, 0, 4), "127");
        for (int t = 7; t >= 0; t--) {
            due("all eight", chain.have(0, t), t == 7 ? 10 : NONE);
        }
        FirstTimes behind = Told.market(EIGHT + ";p;ca0b1;ca1b2;ca2b3;ca3b4;ca4b5;ca5b6");
        for (int t = 7; t >= 0; t--) {
            due("what had been ahead doesn't come", behind.have(0, t), 10);
        }
        FirstTimes ring = Told.market("x;x;x;p;ca0b1;ca1b2;ca2b0");
        due("a ring ends", ring.have(0, 1), 20);
        due("each once", ring.count(11), 3);
        FirstTimes twice = Told.market("x;x;p;c;c;c;c;c;c");
        due("the same coming six times", twice.have(0, 0), 15);
    }

    private static void hadAgain() {
        sentence(2, "(What one HAD already can be had with a FIRST bought.)");
        FirstTimes x = Told.market("x;xv20;p;p;sa1b0p5");
        x.have(0, 0);
        due("without", x.have(0, 0), NONE);
        due("bought", x.sell(1, 0, 0, 3), 23);
        due("had again", x.have(0, 0), 10);
        due("two in the log", x.count(11), 2);
        due("one thing", Told.person(x, 0, 4), "1");
        due("both joys", Told.person(x, 0, 3), "20");
        due("no third one", x.have(0, 0), NONE);
        FirstTimes y = Told.market("x;xv20;p;p;c");
        y.have(0, 0);
        y.steal(0, 1, 0);
        y.steal(0, 1, 1);
        due("what was had doesn't come again", y.have(0, 0), 10);
    }

    private static void selling() {
        sentence(2, "SELL: a FIRST goes over for a PRICE (0 .. 99) that the other one must have as MONEY.");
        FirstTimes x = Told.market("x;x;pm0;pm99;pm98");
        due("99 by one with 98", x.sell(0, 2, 0, 99), NONE);
        due("98 by one with 98", x.sell(0, 2, 0, 98), 98);
        due("it has none then", Told.person(x, 2, 0), "0");
        due("1 by one with 0", x.sell(1, 2, 0, 1), NONE);
        due("0 by one with 0", x.sell(1, 2, 0, 0), 99);
        due("99 by one with 99", x.sell(0, 1, 1, 99), 197);
        due("all of it", Told.person(x, 1, 0), "0");
        due("100 by one with 197", x.sell(1, 0, 1, 100), NONE);
        due("99 by one with 197", x.sell(1, 0, 1, 99), 99);
        due("-1", x.sell(1, 0, 1, -1), NONE);
        due("firsts went over", x.firsts(2, 0), 3);
        due("there and back", x.firsts(0, 1), 1);
    }

    private static void stealing() {
        sentence(2, "STEAL: a FIRST of another one, for nothing.");
        FirstTimes x = Told.market("x;x;pm7;pm8;p;p;p;p");
        for (int p = 1; p < 6; p++) {
            due("one more", x.steal(0, p, 0), p + 1);
            due("none is left there", x.steal(0, p, 0), NONE);
        }
        due("of itself", x.steal(0, 0, 0), NONE);
        due("money", Told.person(x, 0, 0), "7");
        due("its money", Told.person(x, 1, 0), "8");
        due("back", x.steal(1, 0, 0), 1);
        due("five are left", x.firsts(0, 0), 5);
        due("of another thing", x.steal(0, 1, 1), 2);
        due("none is left there", x.firsts(1, 1), 0);
    }

    private static void eightPledges() {
        sentence(2, "PLEDGE (8 at most at a time)");
        FirstTimes x = Told.market(EIGHT + ";pm9;pm9");
        for (int t = 0; t < 8; t++) {
            due("pledge", x.pledge(0, 1, t, 0, t == 0 ? 1 : 30), t + 1);
        }
        due("a ninth", x.pledge(1, 0, 0, 0, 1), NONE);
        due("the eighth", x.pledged(7, 2), 7);
        due("no ninth", x.pledged(8, 2), NONE);
        due("one is redeemed", x.redeem(7), 8);
        due("another instead", x.pledge(0, 1, 7, 0, 30), 8);
        due("a ninth", x.pledge(1, 0, 0, 0, 1), NONE);
        x.days(1);
        due("one fell due", x.count(10), 7);
        due("another instead", x.pledge(1, 0, 0, 0, 30), 8);
        due("a ninth", x.pledge(1, 0, 0, 0, 30), NONE);
    }

    /** Pledges, firsts, persons and the log at their most, each with numbers of its own. */
    private static void fullState() {
        sentence(2, "PLEDGE (8 at most at a time): a FIRST is laid aside for a PRICE that the other one pays now");
        FirstTimes x = Told.market("xv1;xv2;xv3;xv4;xv5;xv6;xv7;xv8;pm10;pm11;pm12;pm13;pm14;pm90");
        for (int p = 1; p < 6; p++) {
            for (int t = 0; t < 8; t++) {
                due("what it gave", x.have(p, t), t + 1);
            }
        }
        for (int t = 0; t < 8; t++) {
            due("pledge", x.pledge(0, 5, t, t + 1, 30 - t), t + 1);
        }
        for (int i = 0; i < 8; i++) {
            int[] want = {0, 5, i, i + 1, 30 - i};
            for (int what = 0; what < 5; what++) {
                due("pledge " + i + ", " + what, x.pledged(i, what), want[what]);
            }
        }
        for (int i = 0; i < 40; i++) {
            due("by whom", x.log(i, 0), 5 - i / 8);
            due("what", x.log(i, 1), 7 - i % 8);
            due("JOY", x.log(i, 2), 8 - i % 8);
        }
        due("no more", x.log(40, 0), NONE);
        due("money", Told.person(x, 0, 0), "46");
        due("money", Told.person(x, 5, 0), "54");
        due("money of others", Told.person(x, 4, 0), "14");
        for (int i = 7; i >= 0; i--) {
            due("left laid aside", x.last(i), 1);
            due("redeemed", x.redeem(i), 46 - sum(i + 2, 9));
            due("those ahead stay", x.pledged(i - 1, 3), i > 0 ? i : NONE);
        }
        due("none", x.count(10), 0);
    }

    private static int sum(int from, int to) {
        return (from + to) * (to - from + 1) / 2;
    }

    private static void pledgesFallingDue() {
        sentence(2, "it falls due so many DAYS (1 .. 30) on");
        FirstTimes x = Told.market("x;x;x;p;p");
        x.days(5);
        x.pledge(0, 1, 0, 4, 1);
        x.pledge(0, 1, 1, 5, 30);
        x.pledge(0, 1, 2, 6, 2);
        due("due on", x.pledged(0, 4), 6);
        due("due on", x.pledged(1, 4), 35);
        x.days(1);
        due("one day on", x.count(10), 2);
        due("it went over", x.firsts(1, 0), 2);
        due("not back", x.firsts(0, 0), 0);
        x.days(1);
        due("two days on", x.count(10), 1);
        x.days(27);
        due("29 days on", x.count(10), 1);
        due("laid aside", x.firsts(1, 1), 1);
        x.days(1);
        due("30 days on", x.count(10), 0);
        due("it went over", x.firsts(1, 1), 2);
        sentence(2, "PLEDGES that are due then go over to who paid.");
        FirstTimes y = Told.market("x;x;x;x;p;p;p");
        y.pledge(0, 1, 0, 0, 2);
        y.pledge(0, 1, 1, 0, 1);
        y.pledge(0, 2, 2, 0, 1);
        y.pledge(1, 2, 3, 0, 3);
        y.pledge(2, 0, 3, 0, 1);
        y.days(1);
        due("three at once", y.count(10), 2);
        due("the first stays first", y.pledged(0, 2), 0);
        due("the others move up", y.pledged(1, 2), 3);
        due("to who paid", "" + y.firsts(1, 1) + y.firsts(2, 2) + y.firsts(0, 3), "222");
        due("money stays there", Told.person(y, 0, 0), "20");
    }

    private static void redeeming() {
        sentence(2, "REDEEMED for the PRICE and one ahead of that, it is its own again.");
        FirstTimes x = Told.market("x;x;x;pm0;pm99");
        x.pledge(0, 1, 0, 50, 2);
        due("with the price alone", x.redeem(0), NONE);
        x.sell(0, 1, 1, 1);
        due("with one more", x.redeem(0), 0);
        due("to who paid", Told.person(x, 1, 0), "99");
        due("its own again", x.firsts(0, 0), 1);
        due("none is left", x.redeem(0), NONE);
        x.pledge(0, 1, 0, 9, 2);
        x.sell(0, 1, 2, 9);
        x.days(1);
        due("a day ahead of it", x.redeem(0), 8);
        x.pledge(0, 1, 0, 0, 1);
        x.days(1);
        due("on the day that it is due", x.redeem(0), NONE);
        FirstTimes y = Told.market("x;x;pm0;pm1");
        y.pledge(1, 0, 0, 0, 1);
        due("one for a price of 0", y.redeem(0), 0);
        due("it went over", Told.person(y, 0, 0), "1");
        FirstTimes z = Told.market("x;x;p;pm99");
        z.pledge(0, 1, 0, 99, 1);
        due("99 and one", z.redeem(0), 19);
        due("it went over", Told.person(z, 1, 0), "100");
    }

    private static void ages() {
        sentence(2, "DAY: DAY and AGES (99 at most) one more");
        FirstTimes x = Told.market("x;x;pg97;pg99;pg0");
        int[] want = {98, 99, 99};
        for (int i = 0; i < 3; i++) {
            due("the day", x.days(1), i + 1);
            due("age", x.person(0, 1), want[i]);
            due("99", x.person(1, 1), 99);
            due("from 0", x.person(2, 1), i + 1);
        }
        pass(x, 95);
        due("98 days on", x.person(2, 1), 98);
        pass(x, 2);
        due("100 days on", x.person(2, 1), 99);
        x.undo();
        due("undone", x.person(2, 1), 99);
        FirstTimes six = Told.market(EIGHT + ";pg99" + SIX.substring(1));
        six.days(1);
        for (int p = 0; p < 6; p++) {
            due("each one's age", six.person(p, 1), p == 0 ? 99 : 21);
            for (int t = 0; t < 8; t++) {
                due("firsts stay", six.firsts(p, t), 1);
            }
        }
        x.undo();
        due("undone", x.person(2, 1), 98);
    }

    private static void fortyActs() {
        sentence(2, "All these are ACTS: the latest 40 can be UNDONE one by one (LOG, too).");
        FirstTimes x = Told.market(EIGHT + ";p;p");
        x.have(0, 0);
        for (int i = 0; i < 13; i++) {
            x.steal(0, 1, 1);
            x.sell(0, 1, 1, 0);
            x.pledge(0, 1, 2, 0, 1);
            due("acts", x.count(14), Math.min(40, 4 + 4 * i));
            x.redeem(0);
        }
        due("forty", x.count(14), 40);
        due("not back to the first", x.count(11), 1);
        x.have(0, 3);
        due("forty still", x.count(14), 40);
        for (int left = 39; left >= 0; left--) {
            due("undone", x.undo(), left);
        }
        due("the 41st", x.undo(), NONE);
        due("behind 14 acts", x.firsts(0, 1), 2);
        due("the log, too", x.count(11), 1);
        FirstTimes y = Told.market("x;x;p");
        for (int i = 0; i < 40; i++) {
            y.days(1);
        }
        for (int left = 39; left >= 0; left--) {
            due("undone", y.undo(), left);
            due("its day", y.count(8), left);
        }
        due("all forty", y.undo(), NONE);
        sixSorts();
    }

    private static void sixSorts() {
        FirstTimes x = Told.market("x;x;p;p");
        String[] stood = new String[6];
        for (int i = 0; i < 6; i++) {
            stood[i] = Twins.standing(x);
            act(x, i);
            due("an act", x.count(14), i + 1);
        }
        for (int i = 5; i >= 0; i--) {
            due("undone", x.undo(), i);
            String now = Twins.standing(x);
            due("all is as it was ahead of act " + i, now, stood[i]);
        }
    }

    private static void act(FirstTimes x, int sort) {
        switch (sort) {
            case 0: x.have(0, 0); break;
            case 1: x.pledge(1, 0, 0, 3, 5); break;
            case 2: x.sell(1, 0, 1, 3); break;
            case 3: x.redeem(0); break;
            case 4: x.steal(1, 0, 1); break;
            default: x.days(1); break;
        }
    }

    private static void logOfAll() {
        sentence(2, "LOG: what was HAD (60 latest): by whom, what, its JOY (of a thing that came: what it gave), the DAY.");
        FirstTimes x = Told.market("x;x;x;x;x;x;x;xv20;" + SIX + ";ca6b7");
        for (int p = 0; p < 6; p++) {
            for (int t = 0; t < 7; t++) {
                x.have(p, t);
            }
            x.days(1);
        }
        // Firsts are never made: no log can be longer than all that six persons hold of eight things.
        due("all are told", x.count(11), 48);
        due("by whom, the latest", x.log(0, 0), 5);
        due("what came", x.log(0, 1), 7);
        due("what it gave", x.log(0, 2), 10);
        due("the day", x.log(0, 3), 5);
        due("what brought it", x.log(1, 1), 6);
        due("by whom, the oldest", x.log(47, 0), 0);
        due("what, the oldest", x.log(47, 1), 0);
        due("the day of the oldest", x.log(47, 3), 0);
        due("none behind it", x.log(48, 0), NONE);
        FirstTimes y = Told.market("x;xv0;p");
        taste(y, "y:v*d");
        pass(y, 999);
        due("nothing, on day 999", y.have(0, 1), 0);
        due("JOY", y.log(0, 2), 0);
        due("the DAY", y.log(0, 3), 999);
        taste(y, "y:999");
        y.have(0, 0);
        due("JOY", y.log(0, 2), 999);
        due("the DAY", y.log(0, 3), 999);
    }

    private static void runs() {
        sentence(2, "RUN of a PLAN (apart): behind how many STEPS the first one is that can't be; JOY of all by it (up to there).");
        FirstTimes x = Told.market("xv3;xv4;p;p");
        Told.text(x, 2, "h00;h00;h01");
        Told.text(x, 2, "t010;d;d;d;d;d;d;d;d;d;d;t010");
        Told.text(x, 2, "h00;h11;d;d;d;d;d;d;d;d;d;h10");
        Told.text(x, 2, "t000");
        int[] behind = {1, 11, NONE, 0};
        int[] joys = {3, 0, 10, 0};
        int[] done = {1, 11, 12, 0};
        for (int plan = 0; plan < 4; plan++) {
            due("plan " + plan, x.run(plan, 0), behind[plan]);
            due("joy of plan " + plan, x.run(plan, 1), joys[plan]);
        }
        due("apart", x.count(14) + x.count(15) + x.count(8), 0);
        sentence(2, "DO: its STEPS as ACTS, up to there.");
        for (int plan = 0; plan < 4; plan++) {
            FirstTimes y = Told.market("xv3;xv4;p;p");
            Told.text(y, 2, new String[] {"h00;h00;h01", "t010;d;d;d;d;d;d;d;d;d;d;t010",
                "h00;h11;d;d;d;d;d;d;d;d;d;h10", "t000"}[plan]);
            due("plan " + plan, y.perform(0), done[plan]);
            due("acts of plan " + plan, y.count(14), done[plan]);
            due("joys of plan " + plan, y.count(15), joys[plan]);
        }
        FirstTimes w = Told.market("x;x;pm0;pm99");
        Told.text(w, 2, "s010,99;t011;s011,1");
        due("99 of 99, then 1 of 0", w.run(0, 0), 2);
        due("apart", Told.person(w, 0, 0), "0");
        due("done so", w.perform(0), 2);
        due("money went over", Told.person(w, 0, 0), "99");
        due("all of it", Told.person(w, 1, 0), "0");
        due("bought", w.firsts(1, 0), 2);
        due("stolen", w.firsts(0, 1), 2);
        Told.text(w, 2, "s011,0;h01;s010,0");
        due("1 for nothing, and none of 0", w.perform(1), 2);
        due("had with the other one", w.firsts(0, 1), 0);
        due("sold", w.firsts(1, 1), 1);
        due("of 0 all are there", w.firsts(1, 0), 2);
        FirstTimes z = Told.market("x;x;p");
        z.have(0, 1);
        Told.text(z, 2, "h00");
        due("joy by it, not what was", z.run(0, 1), 10);
        pass(z, 998);
        Told.text(z, 2, "d;d");
        due("to day 999, not above", z.run(1, 0), 1);
        due("done so", z.perform(1), 1);
        due("none then", z.run(1, 0), 0);
    }

    private static void orders() {
        sentence(3, "it HAS those of the set that it holds a FIRST of and did not have (what came is passed over)");
        FirstTimes x = Told.market("xv10;xv20;xv30;p;p");
        due("no thing of it", x.order(0, 0, 0), NONE);
        due("no joy", x.order(0, 0, 1), 0);
        due("0 alone", x.order(0, 1, 0), 0);
        due("all", x.order(0, 7, 0), 12);
        due("joy of all", x.order(0, 7, 1), 60);
        x.sell(0, 1, 2, 0);
        due("no first of 2", x.order(0, 7, 0), 1);
        x.have(0, 1);
        due("1 was had", x.order(0, 7, 0), 0);
        x.steal(0, 1, 1);
        due("1 was had, with a first", x.order(0, 7, 0), 0);
        due("nothing but what was had", x.order(0, 6, 0), NONE);
        due("nothing but what was had", x.order(0, 6, 1), 0);
        FirstTimes y = Told.market("xv10;xv10;xv10;p;c;ca1b0");
        due("each brings the other one", y.order(0, 7, 0), 2);
        due("joy", y.order(0, 7, 1), 25);
        due("also from beyond the set", y.order(0, 1, 1), 15);
        FirstTimes z = Told.market("xv0;xv0;p");
        due("what gives nothing is had, too", z.order(0, 3, 0), 1);
        FirstTimes eight = Told.market(EIGHT + ";p;sa0b1;sa1b2;sa2b3;sa3b4;sa4b5;sa5b6;sa6b7");
        due("eight digits", eight.order(0, 255, 0), 76543210);
        due("eight joys", eight.order(0, 255, 1), 80);
        for (int t = 7; t >= 0; t--) {
            eight.have(0, t);
        }
        due("all eight were had", eight.order(0, 255, 0), NONE);
        due("no joy", eight.order(0, 255, 1), 0);
    }

    private static void ordersOfSeveral() {
        sentence(3, "the row with the most JOY (of several the shortest, then the least as digits, the first the highest; what "
                + "came is not in it)");
        FirstTimes x = Told.market("xv0;xv10;p;ca1b0");
        due("1 with what came", x.order(0, 3, 0), 1);
        // (2, 1) and (0, 1, 2) give 3 each; 2 brings 0.
        FirstTimes y = Told.market("xv2;xv0;xv2;p;sa0b2p5;sa1b0p9;ca2b0");
        due("the shortest ahead of the least", y.order(0, 7, 0), 21);
        due("its joy", y.order(0, 7, 1), 3);
        due("the least", Told.market("x;x;x;x;p").order(0, 15, 0), 123);
        due("the most ahead of the least", Told.market("x;x;x;p;sa0b1p1").order(0, 7, 0), 102);
        due("the least of those", Told.market("x;x;x;p;sa0b2p1").order(0, 7, 0), 120);
        due("one less in joy", Told.market("x;x;x;p;sa0b2p1;sa1b2p1").order(0, 7, 0), 201);
        due("the most ahead of the shortest", Told.market("x;x;x;p;ca1b0").order(0, 7, 0), 12);
        due("its joy", Told.market("x;x;x;p;ca1b0").order(0, 7, 1), 30);
        due("as of today", Told.market("xv10r1;x;p").order(0, 3, 1), 20);
    }

    private static void cleanRows() {
        sentence(3, "CLEAN: all THINGS in a row in which none is SPOILT by one ahead of it (by SPOILS alone; of several the least "
                + "as digits, the first the highest)");
        due("no spoils", Told.market("x;x;p").clean(), 1);
        due("eight", Told.market(EIGHT + ";p").clean(), 1234567);
        due("the first spoils the last", Told.market(EIGHT + ";p;sa0b7").clean(), 12345670);
        due("turned round", Told.market(EIGHT + ";p;sa0b1;sa1b2;sa2b3;sa3b4;sa4b5;sa5b6;sa6b7").clean(), 76543210);
        due("the least, not the next", Told.market("x;x;x;x;p;sa0b3;sa1b3").clean(), 2301);
        due("two spoil one another", Told.market("x;x;p;s;sa1b0").clean(), NONE);
        due("a ring of eight", Told.market(EIGHT + ";p;s;sa1b2;sa2b3;sa3b4;sa4b5;sa5b6;sa6b7;sa7b0").clean(), NONE);
        due("one spoil short of it", Told.market(EIGHT + ";p;s;sa1b2;sa2b3;sa3b4;sa4b5;sa5b6;sa6b7").clean(), 76543210);
        due("by the least part", Told.market("xv0;xv0;p;sp1").clean(), 10);
        due("comings are nothing to it", Told.market("x;x;p;c;ca1b0").clean(), 1);
    }

    private static void rings() {
        sentence(3, "RINGS: the fewest SPOILS to be left out so that there is such a row.");
        due("no spoils", Told.market("x;x;p").rings(), 0);
        due("no ring", Told.market("x;x;x;p;s;sa1b2;sa0b2").rings(), 0);
        due("two", Told.market("x;x;p;s;sa1b0").rings(), 1);
        due("eight", Told.market(EIGHT + ";p;s;sa1b2;sa2b3;sa3b4;sa4b5;sa5b6;sa6b7;sa7b0").rings(), 1);
        due("one told twice", Told.market("x;x;p;s;s;sa1b0;sa1b0").rings(), 2);
        due("the fewer ones", Told.market("x;x;p;s;s;s;sa1b0").rings(), 1);
        due("five pairs", Told.market(EIGHT + ";p;s;sa1b0;sa2b3;sa3b2;sa4b5;sa5b4;sa6b7;sa7b6;sa0b2;sa2b0").rings(), 5);
        due("all ten both ways", Told.market("x;x;p;s;s;s;s;s;sa1b0;sa1b0;sa1b0;sa1b0;sa1b0").rings(), 5);
        due("by parts of any size", Told.market("x;x;p;sp1;sa1b0p9").rings(), 1);
        for (String spoil : new String[] {";s", ";sa1b0"}) {
            FirstTimes one = Told.market("x;x;p" + spoil);
            due("none behind an order", one.order(0, 3, 1) > 0 && one.rings() == 0, true);
            due("none behind a match", one.pairing(1) > 0 && one.rings() == 0, true);
        }
        FirstTimes x = Told.market("x;x;x;p;p;s;sa1b0");
        for (int i = 0; i < 3; i++) {
            due("behind an order", x.order(0, 7, 1) > 0 && x.rings() == 1, true);
            due("behind a match", x.pairing(1) > 0 && x.rings() == 1, true);
            due("a match behind rings", x.pairing(1), 20);
            due("behind a habit", x.kept(0, 3, 2) > 0 && x.rings() == 1, true);
            x.have(0, i);
        }
    }

    private static void matches() {
        sentence(3, "MATCH: each PERSON is to have one THING or none, each THING one PERSON at most, of THINGS of which somebody "
                + "holds a FIRST");
        FirstTimes x = Told.market("xv9;xv5;p;p;p");
        due("more persons than things", x.pairing(0), 18);
        due("how much", x.pairing(1), 14);
        due("more things than persons", Told.market("xv1;xv2;xv3;p").pairing(0), 2);
        due("one of each", Told.market(EIGHT + ";" + SIX).pairing(0), 12345);
        x.have(0, 0);
        x.have(1, 0);
        due("somebody holds one", x.pairing(1), 14);
        x.have(2, 0);
        due("nobody holds one", x.pairing(0), 188);
        due("how much", x.pairing(1), 5);
        x.steal(0, 1, 1);
        x.steal(0, 2, 1);
        due("one holds all", x.pairing(1), 5);
        x.pledge(0, 1, 1, 0, 1);
        x.pledge(0, 1, 1, 0, 1);
        due("one is not laid aside", x.pairing(1), 5);
        x.pledge(0, 1, 1, 0, 1);
        due("nobody holds any", x.pairing(0), 888);
        due("nothing", x.pairing(1), 0);
        FirstTimes six = Told.market(EIGHT + ";" + SIX);
        six.pledge(0, 5, 3, 7, 15);
        six.pledge(1, 4, 5, 7, 15);
        for (int i = 0; i < 48; i++) {
            six.have(i / 8, i % 8);
        }
        due("six, and nobody holds any", six.pairing(0), 888888);
        due("nothing", six.pairing(1), 0);
        six.days(15);
        due("what fell due can be had", six.pairing(0), 358888);
        sentence(3, "(of several the least as digits by PERSONS: the THING, 8: none, PERSON 0 the highest)");
        due("nothing is gained by 0", Told.market("xv0;xv0;p;p;p").pairing(0), 18);
        due("who likes it", Told.market("x;x;p;pl0").pairing(0), 10);
        due("the last has none", Told.market("x;x;p;pl0;p").pairing(0), 108);
        due("none is 8", Told.market("x;x;p;pl0;pl1").pairing(0), 801);
        due("as of today", Told.market("xv0r9;xv3;p").pairing(1), 3);
    }

    private static void sales() {
        sentence(3, "SALE of a THING: who has the most JOY of it has it (of several the lowest) and pays the next most of others "
                + "(0: nobody else).");
        FirstTimes x = Told.market("xv10;xv0;p;p;p;p;p;pl0");
        due("the most", x.sale(0, 0), 5);
        due("the next most", x.sale(0, 1), 10);
        due("of all alike the lowest", x.sale(1, 0), 0);
        due("0 is paid", x.sale(1, 1), 0);
        FirstTimes y = Told.market("xv10;x;p;pl0;pl0;p");
        due("of two the lowest", y.sale(0, 0), 1);
        due("as much as it", y.sale(0, 1), 20);
        due("who comes ahead is the next most", Told.market("x;x;p;pl0").sale(0, 1), 10);
        FirstTimes v = Told.market("xv0r9;x;pm1;pm2;pm3;pm0");
        due("as of today", v.sale(0, 1), 0);
        taste(v, "y:m");
        due("rising", v.sale(0, 0), 2);
        due("rising", v.sale(0, 1), 2);
        FirstTimes z = Told.market("xv10;x;p");
        due("nobody else", z.sale(0, 0), 0);
        due("it pays 0", z.sale(0, 1), 0);
        FirstTimes w = Told.market("xv10;x;pl0;p;p");
        due("the first has the most", w.sale(0, 0), 0);
        due("the next comes behind", w.sale(0, 1), 10);
        w.have(0, 0);
        due("without a first as well", w.sale(0, 0), 0);
    }

    private static void waits() {
        sentence(3, "WAIT for a THING by one, n (0 .. 30) DAYS at most, at a chance (0 .. 100) each DAY that its FIRST is stolen");
        FirstTimes x = Told.market("xv0r9;x;p");
        due("0 days", x.awaits(0, 0, 0, 0, 0), 0);
        due("0 days", x.awaits(0, 0, 0, 0, 1), 0);
        due("30 days", x.awaits(0, 0, 30, 0, 0), 30);
        due("30 days", x.awaits(0, 0, 30, 0, 1), 270);
        due("29 days", x.awaits(0, 0, 29, 0, 0), 29);
        due("29 days", x.awaits(0, 0, 29, 0, 1), 261);
        due("all is stolen", x.awaits(0, 0, 30, 100, 0), 0);
        due("all is stolen", x.awaits(0, 0, 30, 100, 1), 0);
        // One part of a hundred of 9 is 0.09, of 18 on the next day less than 0.01.
        due("nearly all", x.awaits(0, 0, 30, 99, 0), 0);
        due("nearly all", x.awaits(0, 0, 30, 89, 1), 0);
        due("a ninth is left", x.awaits(0, 0, 30, 88, 0), 1);
        due("a ninth is left", x.awaits(0, 0, 30, 88, 1), 1);
        sentence(3, "are the most (of several the fewest)");
        due("alike each day", x.awaits(0, 1, 30, 0, 0), 0);
        due("less each day", x.awaits(0, 1, 30, 1, 0), 0);
        FirstTimes y = Told.market("xv98r1;x;p");
        taste(y, "y:d<2?5;y:d>3?6;y:d=3?7;y:7");
        due("the fewest of the most", y.awaits(0, 0, 30, 0, 0), 2);
        sentence(3, "(Nothing else changes but DAY and AGE.)");
        FirstTimes z = Told.market("x;x;pg97m3;p");
        z.pledge(1, 0, 0, 3, 1);
        taste(z, "y:g*[100-d]/10+m");
        due("age 99 on day 2", z.awaits(0, 0, 30, 0, 1), 970);
        due("age 99 on day 2", z.awaits(0, 0, 30, 0, 0), 0);
        taste(z, "y:g*10+d");
        due("999 on day 9", z.awaits(0, 0, 30, 0, 0), 9);
    }

    private static void waitsCut() {
        sentence(3, "of 10 to the 9 parts chance by 100 of those left, cut, are gone each DAY");
        // Where what is left were cut instead, or nothing, or there were ten times more or fewer, another one comes out.
        int[][] cases = {{30, 1, 534, 395}, {29, 8, 651, 58}, {29, 2, 733, 408}, {11, 4, 727, 463}};
        for (int[] c : cases) {
            FirstTimes x = Told.market("x;x;p");
            taste(x, "y:d=" + c[0] + "?" + c[2] + ";y:0");
            due("chance " + c[1], x.awaits(0, 0, 30, c[1], 1), c[3]);
            due("the day", x.awaits(0, 0, 30, c[1], 0), c[0]);
            due("not so long", x.awaits(0, 0, c[0] - 1, c[1], 0), 0);
        }
        sentence(3, "how many DAYS to wait so that parts times JOY on that DAY, by 10 to the 9, cut");
        FirstTimes y = Told.market("x;x;p");
        taste(y, "y:d=1?2;y:d=0?0;y:0");
        due("2 by 50", y.awaits(0, 0, 1, 50, 1), 1);
        due("2 by 49", y.awaits(0, 0, 1, 51, 1), 0);
        due("2 by 49", y.awaits(0, 0, 1, 51, 0), 0);
    }

    private static void repeats() {
        sentence(3, "REPEATS of a PERSON behind n (0 .. 60) DAYS: how many THINGS it holds no FIRST of (PLEDGES as they fall due; "
                + "none is REDEEMED).");
        FirstTimes x = Told.market(EIGHT + ";p;p");
        due("none", x.repeats(0, 0), 0);
        for (int t = 0; t < 8; t++) {
            x.have(0, t);
        }
        due("all", x.repeats(0, 0), 8);
        x.pledge(1, 0, 0, 0, 30);
        x.pledge(1, 0, 1, 0, 1);
        int[] days = {0, 1, 29, 30, 60};
        int[] want = {8, 7, 7, 6, 6};
        int[] other = {2, 2, 2, 2, 2};
        for (int i = 0; i < days.length; i++) {
            due("behind " + days[i], x.repeats(0, days[i]), want[i]);
            due("of who laid aside", x.repeats(1, days[i]), other[i]);
        }
        FirstTimes y = Told.market(EIGHT + ";p;p");
        y.have(0, 1);
        y.pledge(1, 0, 0, 0, 1);
        due("one that it holds already", y.repeats(0, 1), 1);
        y.pledge(1, 0, 1, 0, 1);
        due("one that it had", y.repeats(0, 1), 0);
        pass(x, 980);
        x.pledge(1, 0, 2, 0, 30);
        due("beyond day 999", x.repeats(0, 29), 6);
        due("beyond day 999", x.repeats(0, 30), 5);
    }

    private static void habits() {
        sentence(3, "KEPT by a HABIT for n (1 .. 30) DAYS: each DAY it HAS, ahead of the DAY's end, one THING of which it holds a "
                + "FIRST and that it did not have");
        FirstTimes x = Told.market("xv10r1;xv20r1;p;p");
        int[] one = {10, 20, 10, 30};
        int[] two = {31, 31, 31, 32};
        int[] thirty = {31, 31, 31, 88};
        for (int habit = 0; habit < 4; habit++) {
            due("one day by " + habit, x.kept(0, habit, 1), one[habit]);
            due("two days by " + habit, x.kept(0, habit, 2), two[habit]);
            due("30 days by " + habit, x.kept(0, habit, 30), thirty[habit]);
        }
        x.sell(0, 1, 1, 0);
        due("no first of it", x.kept(0, 1, 30), 10);
        x.have(0, 0);
        x.steal(0, 1, 0);
        due("it had that", x.kept(0, 0, 30), 0);
        due("it had that", x.kept(0, 3, 30), 0);
        sentence(3, "3 none: on the last DAY as by ORDER for all");
        FirstTimes y = Told.market("xv10r1;xv0;p");
        due("on day 0", y.kept(0, 3, 1), 10);
        due("on day 29", y.kept(0, 3, 30), 39);
        sentence(3, "one THING of which it holds a FIRST and that it did not have");
        FirstTimes z = Told.market("x;xv20;xv30;p;c");
        due("what came is not had again", z.kept(0, 0, 3), 10 + 10 + 30);
        due("a thing with what came", z.kept(0, 0, 1), 20);
        FirstTimes w = Told.market("x;x;p;p");
        w.sell(0, 1, 0, 0);
        w.sell(0, 1, 1, 0);
        w.pledge(1, 0, 0, 0, 1);
        w.pledge(1, 0, 1, 0, 30);
        due("pledges fall due", w.kept(0, 0, 2), 10);
        due("not on that day", w.kept(0, 0, 1), 0);
    }

    private static void habitsOfSeveral() {
        sentence(3, "0 the lowest, 1 that with the most JOY (of several the lowest), 2 that which SPOILS the least (PARTS of its "
                + "SPOILS for others that it did not have and holds a FIRST of together; of several the lowest)");
        // On one day the joy tells which thing it was.
        FirstTimes x = Told.market("xv1;xv3;xv3;xv2;p;p;sa0b1p9;sa1b0p4;sa1b2p5;sa2b3p8;sa3b0p8");
        due("the lowest", x.kept(0, 0, 1), 1);
        due("the most", x.kept(0, 1, 1), 3);
        due("the least spoils, the lowest of 2 and 3", x.kept(0, 2, 1), 3);
        x.sell(0, 1, 1, 0);
        due("0 spoils nothing that it holds", x.kept(0, 2, 1), 1);
        x.undo();
        x.have(0, 1);
        due("0 spoils nothing that it did not have", x.kept(0, 2, 1), 0);
        x.undo();
        x.sell(0, 1, 3, 0);
        due("2 spoils nothing that it holds", x.kept(0, 2, 1), 3);
        FirstTimes y = Told.market("xv1;xv2;xv2;p;p;sa0b1p1;sa2b1p1;sa1b0p1");
        due("of several the lowest", y.kept(0, 2, 1), 1);
        due("as of today", Told.market("xv10;xv9r2;p").kept(0, 1, 1), 10);
        FirstTimes z = Told.market("xv4;xv5;xv5;p;sa0b1p9;sa1b2p5;sa2b1p1");
        due("1, and 2 by half", z.kept(0, 1, 2), 5 + 4);
        sentence(3, "JOY of it; the best HABIT (of several the lowest).");
        FirstTimes w = Told.market("x;x;p");
        due("all alike but the fourth", w.habit(0, 1, 0), 3);
        due("all alike", w.habit(0, 2, 0), 0);
        due("how much", w.habit(0, 2, 1), 20);
        due("1 and not 0", Told.market("xv1;xv2;p").habit(0, 1, 1), 3);
        FirstTimes v = Told.market("xv9;xv10;p;sa0b1p9");
        due("1 as well as 2 and 3", v.habit(0, 2, 0), 1);
        FirstTimes u = Told.market("xv10;xv9;p;sa0b1p9");
        due("2 as well as 3", u.habit(0, 2, 0), 2);
        due("its joy", u.habit(0, 2, 1), 19);
        due("nothing by any", none().habit(0, 30, 0), 0);
        due("nothing by any", none().habit(0, 30, 1), 0);
    }

    private static FirstTimes none() {
        FirstTimes x = Told.market("x;x;p");
        x.have(0, 0);
        x.have(0, 1);
        return x;
    }

    private static void founds() {
        sentence(4, "FOUND (12 at most): of a seller it was found how much (0 .. 10) a THING it sold was SPOILT (to it).");
        FirstTimes x = Told.market("x;x;p;sp5;sp5");
        for (int i = 1; i <= 12; i++) {
            due("found", x.found(1, 10), i);
        }
        due("a thirteenth", x.found(1, 0), NONE);
        due("it is none", x.must(NONE), 2);
        int[] sets = {2, 0, 0, 0, 0, 0, 0, 0, 0, 0, 2};
        for (int spoilt = 0; spoilt <= 10; spoilt++) {
            FirstTimes y = Told.market("x;x;p;sp5;sp5");
            due("found", y.found(1, spoilt), 1);
            due("sets by " + spoilt, y.must(NONE), sets[spoilt]);
        }
        FirstTimes z = Told.market("x;x;x;p;p;sp9;sp9;sa2b1p9");
        z.found(1, 10);
        due("10 at most, by 18 or more", z.must(NONE), 4);
        z.found(1, 9);
        due("not both", z.must(NONE), 0);
    }

    private static void musts() {
        sentence(4, "MUST: sets of THINGS (bits) that it could have HAD by which all is so (one FOUND of a THING it HAD is no "
                + "contradiction): how many, the i-th (rising)");
        FirstTimes x = Told.market(EIGHT + ";p");
        due("all sets of eight", x.must(NONE), 256);
        due("the first", x.must(0), 0);
        due("the last", x.must(255), 255);
        due("none behind it", x.must(256), NONE);
        x.found(0, 0);
        due("nothing spoils it", x.must(NONE), 256);
        x.found(0, 1);
        due("nothing can", x.must(NONE), 0);
        due("no first one", x.must(0), NONE);
        FirstTimes y = Told.market("x;x;p;s");
        y.found(1, 5);
        due("rising", y.must(0), 1);
        due("with 1 itself", y.must(1), 3);
        due("no third one", y.must(2), NONE);
        y.have(0, 1);
        due("whatever was had here", y.must(NONE), 2);
        sentence(4, "SURE: THINGS in all of these.");
        due("0", y.sure(), 1);
        due("nothing of all", Told.market("x;x;p;s").sure(), 0);
        FirstTimes w = Told.market("x;x;p;s");
        w.found(1, 0);
        due("none, or 1 alone", w.must(NONE), 2);
        due("nothing of both", w.sure(), 0);
        FirstTimes z = Told.market("x;x;p;s;sa1b0");
        z.found(0, 5);
        z.found(1, 5);
        due("one set", z.must(NONE), 1);
        due("both", z.sure(), 3);
        due("no set fits", unfit().sure(), NONE);
    }

    private static FirstTimes unfit() {
        FirstTimes x = Told.market("x;x;p;s");
        x.found(1, 4);
        return x;
    }

    private static void claims() {
        sentence(4, "CLAIMS (12 at most): a PERSON HAD a THING on a DAY (0 .. 99), give or take e (0 .. 9; not ahead of DAY 0).");
        FirstTimes x = Told.market("x;x;p;p");
        for (int i = 1; i <= 12; i++) {
            due("claim", x.claim(0, 0, 50, 0), i);
        }
        due("a thirteenth", x.claim(1, 0, 0, 0), NONE);
        due("it is none", x.could(0), 1);
        // One on day 99 by 9 may be as late as 108, and one on day 0 is never ahead of it.
        FirstTimes y = Told.market("x;x;p;p");
        y.claim(0, 0, 99, 9);
        y.claim(1, 0, 99, 9);
        due("as late as 108", y.could(0), 3);
        FirstTimes z = Told.market("x;x;p;p");
        z.claim(0, 0, 5, 9);
        z.claim(1, 0, 0, 0);
        due("not ahead of day 0", z.could(0), 3);
        due("so it is not for sure", z.alone(0), NONE);
        for (int e = 0; e <= 9; e++) {
            FirstTimes w = Told.market("x;x;p;p");
            w.claim(0, 0, 20, e);
            w.claim(1, 0, 11, 0);
            due("9 days with e " + e, w.could(0), e < 9 ? 2 : 3);
            FirstTimes v = Told.market("x;x;p;p");
            v.claim(0, 0, 20, 0);
            v.claim(1, 0, 11, e);
            due("9 days with e " + e + " of the first", v.could(0), e < 9 ? 2 : 3);
        }
    }

    private static void firstOrAtOnce() {
        sentence(4, "COULD: PERSONS (bits) that could have been the first with a THING, or at once with the first, by some DAYS "
                + "within all CLAIMS of it (of several CLAIMS of one it HAD it on the earliest).");
        int[] want = {2, 3, 1};
        for (int day = 9; day <= 11; day++) {
            FirstTimes x = Told.market("x;x;p;p;p");
            x.claim(0, 0, 10, 0);
            x.claim(1, 0, day, 0);
            due("10 and " + day, x.could(0), want[day - 9]);
            due("another thing", x.could(1), 0);
        }
        FirstTimes y = Told.market("x;x;" + SIX);
        for (int p = 0; p < 6; p++) {
            y.claim(p, 1, 20 + p, 3);
        }
        due("22 to 26 could, 27 to 28 could not", y.could(1), 63);
        FirstTimes z = Told.market("x;x;" + SIX);
        for (int p = 0; p < 6; p++) {
            z.claim(p, 1, 20 + p, 2);
        }
        due("the last comes a day behind the first's last", z.could(1), 31);
        due("so none of six is alone", z.alone(1), NONE);
        FirstTimes v = Told.market("x;x;" + SIX);
        v.claim(5, 0, 1, 0);
        due("the sixth alone", v.could(0), 32);
        due("the sixth alone", v.alone(0), 5);
        FirstTimes w = Told.market("x;x;p;p");
        w.claim(0, 0, 30, 0);
        w.claim(1, 0, 20, 0);
        w.claim(0, 0, 20, 0);
        due("by the earliest at once", w.could(0), 3);
        w.claim(0, 0, 19, 0);
        due("by the earliest ahead", w.could(0), 1);
    }

    private static void aheadForSure() {
        sentence(4, "ALONE: the one that was ahead of all others for sure.");
        int[] want = {1, NONE, 0};
        for (int day = 9; day <= 11; day++) {
            FirstTimes x = Told.market("x;x;p;p;p");
            x.claim(0, 0, 10, 0);
            x.claim(1, 0, day, 0);
            due("10 and " + day, x.alone(0), want[day - 9]);
        }
        FirstTimes y = Told.market("x;x;p;p;p");
        y.claim(2, 0, 10, 3);
        due("who alone claims it", y.alone(0), 2);
        y.claim(1, 0, 17, 3);
        due("13 and 14", y.alone(0), 2);
        y.claim(0, 0, 16, 3);
        due("13 and 13", y.alone(0), NONE);
        due("but 1 could not", y.could(0), 5);
        due("of another thing none", y.alone(1), NONE);
    }

    private static void yearsOfDraws() {
        sentence(4, "YEARS (1 .. 30 DAYS) by a seed: on each DAY each PERSON by numbers: a draw of all THINGS: if it holds a FIRST "
                + "of it, it HAS it");
        FirstTimes x = Told.market("x;x;p;p");
        due("one", x.years(1, 1L), 1);
        due("each person had one", x.count(11), 2);
        due("person 1 behind person 0", x.log(0, 0), 1);
        due("30", x.years(30, 1L), 31);
        due("none is left", x.last(0) + x.last(1), 0);
        sentence(4, "then the DAY ends. Each DAY is one ACT.");
        FirstTimes y = Told.market("x;x;pg98;p");
        y.pledge(0, 1, 0, 3, 2);
        y.years(1, 7L);
        due("age", y.person(0, 1), 99);
        due("not yet due", y.count(10), 1);
        y.years(1, 7L);
        due("99 at most", y.person(0, 1), 99);
        due("due", y.count(10), 0);
        due("two and the pledge", y.count(14), 3);
        due("one is undone", y.undo(), 2);
        due("one day", y.count(8), 1);
        due("the pledge is back", y.count(10), 1);
        y.years(30, 7L);
        y.years(30, 7L);
        due("40 at most", y.count(14), 40);
        for (int left = 39; left >= 0; left--) {
            due("undone", y.undo(), left);
            due("day by day", y.count(8), 21 + left);
        }
    }

    private static BigInteger next(BigInteger x) {
        return x.multiply(new BigInteger("6364136223846793005")).add(new BigInteger("1442695040888963407")).mod(ROUND);
    }

    private static int draw(BigInteger x, int k) {
        return x.shiftRight(33).mod(BigInteger.valueOf(k)).intValue();
    }

    private static void draws() {
        sentence(4, "x, at first the seed, becomes x times 6364136223846793005 and 1442695040888963407 (64 bits, going round); a "
                + "draw of k: (x shifted right by 33, without sign) modulo k.");
        long[] seeds = {0, 1, -1, 2, -2, Long.MAX_VALUE, Long.MIN_VALUE, Integer.MAX_VALUE, Integer.MIN_VALUE,
            1L << 33, (1L << 33) - 1, 0x7fffffffffffffffL / 3, -6364136223846793005L};
        for (long seed : seeds) {
            for (int things = 2; things <= 8; things++) {
                FirstTimes x = Told.market("x;".repeat(things) + SIX);
                due("a year", x.years(1, seed), 1);
                BigInteger n = BigInteger.valueOf(seed).mod(ROUND);
                for (int p = 0; p < 6; p++) {
                    n = next(n);
                    due("seed " + seed + ", of " + things + ", person " + p, x.log(5 - p, 1), draw(n, things));
                }
                x.undo();
                x.years(1, seed);
                due("the same seed again", x.log(0, 1), draw(n, things));
            }
        }
    }

    /** Days by draws, held against plain arithmetic: firsts by persons and things, no joys. */
    private static void manyDays() {
        sentence(4, "on each DAY each PERSON by numbers: a draw of all THINGS: if it holds a FIRST of it, it HAS it; else a draw of "
                + "100 below THEFT (0 .. 99; 0 at first): it STEALS one of the lowest other one that holds one; then the DAY "
                + "ends.");
        for (int run = 0; run < 120; run++) {
            int things = 2 + run % 7;
            int persons = 1 + run % 6;
            int theft = run % 3 == 0 ? 99 : run % 3 == 1 ? 0 : 50;
            long seed = run * 0x9e3779b97f4a7c15L;
            FirstTimes x = Told.market("x;".repeat(things) + "p;".repeat(persons - 1) + "p");
            x.theft(theft);
            int[][] held = new int[persons][things];
            for (int[] row : held) {
                java.util.Arrays.fill(row, 1);
            }
            int days = 1 + run % 30;
            int had = live(held, days, seed, theft);
            due("the day", x.years(days, seed), days);
            due("had in run " + run, x.count(11), had);
            for (int p = 0; p < persons; p++) {
                for (int t = 0; t < things; t++) {
                    due("firsts in run " + run + ": " + p + " " + t, x.firsts(p, t), held[p][t]);
                }
            }
        }
    }

    private static int live(int[][] held, int days, long seed, int theft) {
        BigInteger n = BigInteger.valueOf(seed).mod(ROUND);
        int had = 0;
        for (int i = 0; i < days * held.length; i++) {
            int p = i % held.length;
            n = next(n);
            int t = draw(n, held[p].length);
            if (held[p][t] > 0) {
                held[p][t]--;
                had++;
                continue;
            }
            n = next(n);
            int other = 0;
            while (other < held.length && (other == p || held[other][t] == 0)) {
                other++;
            }
            if (draw(n, 100) < theft && other < held.length) {
                held[other][t]--;
                held[p][t]++;
            }
        }
        return had;
    }

    /** The second number of a seed's row: of the draw of 100 by one that holds nothing. */
    private static int second(long seed) {
        return draw(next(next(BigInteger.valueOf(seed).mod(ROUND))), 100);
    }

    private static void theft() {
        sentence(4, "else a draw of 100 below THEFT (0 .. 99; 0 at first): it STEALS one of the lowest other one that holds one");
        due("at first", new FirstTimes().count(9), 0);
        for (long seed = 0; seed < 300; seed++) {
            int drawn = second(seed);
            due("draw " + drawn + " by 0", stolen(seed, 0), 0);
            if (drawn > 0) {
                due("draw " + drawn + " by as much", stolen(seed, drawn), 0);
            }
            if (drawn < 99) {
                due("draw " + drawn + " by one more", stolen(seed, drawn + 1), 1);
            } else {
                due("99 by the most", stolen(seed, 99), 0);
            }
        }
        ofTheLowest();
        FirstTimes none = Told.market("x;x;p;p");
        none.have(0, 0);
        none.have(0, 1);
        none.have(1, 0);
        none.have(1, 1);
        none.theft(99);
        due("of nobody", none.years(30, 3L), 30);
        due("nothing was stolen", none.firsts(0, 0) + none.firsts(1, 1), 0);
    }

    /** How many of a thing person 0, who holds nothing, has stolen of person 1, who holds all, on a day by draws. */
    private static int stolen(long seed, int theft) {
        FirstTimes x = Told.market("x;x;p;p");
        x.sell(0, 1, 0, 0);
        x.sell(0, 1, 1, 0);
        x.theft(theft);
        int drawn = draw(next(BigInteger.valueOf(seed).mod(ROUND)), 2);
        x.years(1, seed);
        due("the other thing is not stolen", x.firsts(0, 1 - drawn), 0);
        return x.firsts(0, drawn);
    }

    private static void ofTheLowest() {
        for (long seed = 0; seed < 40; seed++) {
            int steals = second(seed) < 99 ? 1 : 0;
            FirstTimes x = Told.market("x;x;p;p;p");
            x.sell(0, 1, 0, 0);
            x.sell(0, 1, 1, 0);
            x.theft(99);
            x.years(1, seed);
            due("of 1, not of 2", x.firsts(1, 0) + x.firsts(1, 1), 3 - steals);
            due("2 had one itself", x.firsts(2, 0) + x.firsts(2, 1), 1);
            FirstTimes z = Told.market("x;x;p;p;p");
            for (int t = 0; t < 2; t++) {
                z.sell(1, 2, t, 0);
                z.sell(2, 0, t, 0);
            }
            z.theft(99);
            z.years(1, seed);
            due("1 stole of 0, or nothing", z.firsts(2, 0) + z.firsts(2, 1), 1);
            BigInteger n = next(next(next(BigInteger.valueOf(seed).mod(ROUND))));
            FirstTimes y = Told.market("x;x;p;p;p");
            for (int t = 0; t < 2; t++) {
                y.sell(0, 2, t, 0);
                y.sell(1, 2, t, 0);
            }
            y.theft(99);
            y.years(1, seed);
            int drawn = draw(next(BigInteger.valueOf(seed).mod(ROUND)), 2);
            if (draw(n, 2) != drawn) {
                due("1 holds none, so of 2", y.firsts(0, drawn), steals);
            }
        }
    }

    private static void richest() {
        sentence(4, "RICHEST: who has the most MONEY (of several the lowest).");
        due("all alike", Told.market("x;x;" + SIX).richest(), 0);
        due("the last", Told.market("x;x;p;p;p;p;p;pm21").richest(), 5);
        due("two of three", Told.market("x;x;pm1;pm99;pm99").richest(), 1);
        due("without any", Told.market("x;x;pm0;pm0").richest(), 0);
        due("six without any", Told.market(EIGHT + ";pm0;pm0;pm0;pm0;pm0;pm0").richest(), 0);
        FirstTimes x = Told.market("x;x;pm9;pm10");
        due("by one", x.richest(), 1);
        x.sell(0, 1, 0, 1);
        due("by one, turned round", x.richest(), 0);
    }

    private static void joysOfAll() {
        sentence(4, "JOYS of all together.");
        FirstTimes x = Told.market(EIGHT + ";" + SIX);
        due("at first", x.count(15), 0);
        taste(x, "y:999");
        int sum = 0;
        for (int i = 0; i < 48; i++) {
            sum += x.have(i / 8, i % 8);
            due("so far", x.count(15), sum);
        }
        due("the most there can be", sum, 48 * 999);
        due("a sixth of it by each", Told.person(x, 5, 3), "7992");
    }

    private static void lastOnes() {
        sentence(4, "LAST of a THING: how many FIRSTS of it are left (laid aside, too).");
        FirstTimes x = Told.market(EIGHT + ";" + SIX);
        due("six", x.last(7), 6);
        x.pledge(0, 1, 7, 0, 30);
        x.pledge(1, 0, 7, 0, 30);
        due("laid aside, too", x.last(7), 6);
        for (int p = 2; p < 6; p++) {
            x.have(p, 7);
        }
        x.have(1, 7);
        due("both laid aside", x.last(7), 2);
        due("of another thing", x.last(0), 6);
        x.days(30);
        x.have(0, 7);
        x.have(1, 7);
        due("none", x.last(7), 0);
    }

    private static void images() {
        sentence(4, "An IMAGE keeps all of this MARKET but FOUND, CLAIMS; BACK: it is so again (no ACT can be UNDONE then).");
        FirstTimes x = Told.market("x;x;x;p;p;sp9;ca1b2");
        x.days(2);
        x.have(0, 0);
        x.pledge(0, 1, 1, 2, 9);
        String stood = Twins.standing(x);
        x.image();
        due("acts can be undone still", x.count(14), 4);
        x.have(1, 1);
        x.redeem(0);
        x.sell(1, 0, 0, 5);
        x.days(30);
        x.days(30);
        x.back();
        due("no act", x.count(14), 0);
        due("no act can be undone", x.undo(), NONE);
        due("all else is so again", Twins.standing(x), stood.replaceFirst("^((\\S+ ){14})4 ", "$10 "));
        x.found(1, 9);
        x.claim(0, 0, 1, 1);
        x.back();
        due("FOUND stays", x.count(12), 1);
        due("CLAIMS stay", x.count(13), 1);
        due("of one set", x.must(NONE), 4);
        due("by one", x.could(0), 1);
        x.days(1);
        due("acts again", x.undo(), 0);
        outliveAMarket();
    }

    /** What promise 5 tells as outliving a market is not of it: neither an image nor an act's undoing touches it. */
    private static void outliveAMarket() {
        FirstTimes x = Told.market("xv3;x;p;p");
        Told.text(x, 1, "y:7");
        x.image();
        x.days(1);
        Told.text(x, 1, "y:8");
        x.taste(1);
        x.theft(40);
        Told.text(x, 2, "d;d");
        Told.feed(x, "x;");
        due("BACK", x.back(), 0);
        outlived(x);
        x.days(1);
        x.taste(0);
        x.theft(50);
        x.image();
        x.taste(1);
        x.theft(40);
        due("the day is UNDONE", x.undo(), 0);
        outlived(x);
        due("BACK again", x.back(), 1);
        outlived(x);
    }

    private static void outlived(FirstTimes x) {
        due("TASTES stay", x.count(4), 2);
        due("the one that holds stays", x.count(7), 1);
        due("by which things are wanted", x.joy(0, 0, 0), 8);
        due("PLANS stay", x.count(5), 1);
        due("THEFT stays", x.count(9), 40);
        due("the TAPE stays", x.count(6), 2);
    }
}
