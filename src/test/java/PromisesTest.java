/** Each promise by hand: ordinary inputs, the edges that the document names, wrong inputs. */
public final class PromisesTest {
    private static final int NONE = FirstTimes.NONE;
    private static final int HIDDEN = FirstTimes.HIDDEN;
    private static final String PAIR = "x;xv30r2;p;pm40g98l1";

    private PromisesTest() {
    }

    public static void main(String[] args) {
        newObject();
        tape();
        texts();
        toldThings();
        tastes();
        having();
        comings();
        selling();
        stealing();
        pledging();
        days();
        undoing();
        logs();
        plans();
        orders();
        cleanAndRings();
        matches();
        sales();
        waits();
        repeats();
        habits();
        founds();
        claims();
        years();
        images();
        counts();
        Told.close("PromisesTest");
    }

    private static void due(String what, Object got, Object want) {
        Told.due(what, got, want);
    }

    private static void newObject() {
        FirstTimes x = new FirstTimes();
        for (int what = 0; what <= 15; what++) {
            due("1: count " + what, x.count(what), what == 7 ? NONE : 0);
        }
        due("1: thing", x.thing(0, 0), NONE);
        due("1: person", Told.person(x, 0, 0), "throws");
        due("1: firsts", x.firsts(0, 0), NONE);
        due("1: spoil", x.spoil(0, 0), NONE);
        due("1: coming", x.coming(0, 0), NONE);
        due("1: joy", x.joy(0, 0, 0), NONE);
        due("1: have", x.have(0, 0), NONE);
        due("1: sell", x.sell(0, 1, 0, 0), NONE);
        due("1: steal", x.steal(0, 1, 0), NONE);
        due("1: pledge", x.pledge(0, 1, 0, 0, 1), NONE);
        due("1: pledged", x.pledged(0, 0), NONE);
        due("1: redeem", x.redeem(0), NONE);
        due("1: days", x.days(1), NONE);
        due("1: undo", x.undo(), NONE);
        due("1: log", x.log(0, 0), NONE);
        due("1: order", x.order(0, 0, 0), HIDDEN);
        due("1: clean", x.clean(), NONE);
        due("1: rings", x.rings(), NONE);
        due("1: pairing", x.pairing(1), NONE);
        due("1: sale", x.sale(0, 0), NONE);
        due("1: awaits", x.awaits(0, 0, 0, 0, 0), NONE);
        due("1: repeats", x.repeats(0, 0), NONE);
        due("1: kept", x.kept(0, 0, 1), NONE);
        due("1: habit", x.habit(0, 1, 0), NONE);
        due("1: found", x.found(0, 0), NONE);
        due("1: must", x.must(NONE), NONE);
        due("1: sure", x.sure(), NONE);
        due("1: claim", x.claim(0, 0, 0, 0), NONE);
        due("1: could", x.could(0), NONE);
        due("1: alone", x.alone(0), NONE);
        due("1: years", x.years(1, 1L), NONE);
        due("1: richest", x.richest(), NONE);
        due("1: last", x.last(0), NONE);
        due("1: image", x.image(), NONE);
        due("1: back", x.back(), NONE);
        due("1: a plan without a market is kept", Told.text(x, 2, "d"), 0);
        due("1: run without a market", x.run(0, 0), HIDDEN);
        due("1: perform without a market", x.perform(0), NONE);
    }

    private static void tape() {
        FirstTimes x = new FirstTimes();
        due("2: bytes of 0 are left out", x.feed(0x78003b00, 0, 0x00780000, 0, 0x3b700000), 5);
        due("2: the highest is the first", x.fault(0), NONE);
        due("2: nothing but 0", x.feed(0, 0, 0, 0, 0), 5);
        due("2: signs above 127", x.feed(-1, 0, 0, 0, 0), 9);
        due("2: they are a fault", x.fault(0), 5);
        due("3: end", x.end(5), true);
        due("3: end where it ends", x.end(5), true);
        due("3: too far", x.end(6), false);
        due("3: below 0", x.end(-1), false);
        due("3: bytes are as they were", x.fault(0), NONE);
        due("3: fewer", x.end(3), true);
        due("3: count", x.count(6), 3);
        due("4: it ends too early", x.fault(0), 3);
        x.end(0);
        int word = 0x20202020;
        for (int i = 1; i <= 12; i++) {
            due("2: feed", x.feed(word, word, word, word, word), 20 * i);
        }
        due("2: 241 are refused", x.feed(0x20000000, 0, 0, 0, 0), NONE);
        due("2: they change nothing", x.count(6), 240);
        due("2: nothing more fits always", x.feed(0, 0, 0, 0, 0), 240);
        due("3: 239", x.end(239), true);
        due("2: two are refused whole", x.feed(0x20200000, 0, 0, 0, 0), NONE);
        int two = 0x00202000;
        due("2: wherever they stand", x.feed(0, two, 0, 0, 0), NONE);
        due("2: wherever they stand", x.feed(0, 0, two, 0, 0), NONE);
        due("2: wherever they stand", x.feed(0, 0, 0, two, 0), NONE);
        due("2: wherever they stand", x.feed(0, 0, 0, 0, two), NONE);
        due("2: one each", x.feed(1, 0, 0, 0, 1), NONE);
        due("2: one fits", x.feed(0x00200000, 0, 0, 0, 0), 240);
        due("4: no such sort", x.fault(-1), -2);
        due("4: no such sort", x.fault(3), -2);
        due("4: blanks alone end too early", x.fault(0), 240);
        due("4: also as a taste", x.fault(1), 240);
        due("4: also as a plan", x.fault(2), 240);
    }

    private static void texts() {
        FirstTimes x = new FirstTimes();
        due("5: a fault", Told.text(x, 0, "x;p"), NONE);
        due("5: the tape stays", x.count(6), 3);
        due("5: no such sort", x.text(3), NONE);
        due("5: no such sort", x.text(-1), NONE);
        due("5: no such sort, whatever the tape is", Told.text(x, 3, "d"), NONE);
        due("5: no such sort, whatever the tape is", Told.text(x, -1, "x;x;p"), NONE);
        due("5: they made nothing", x.count(0) + x.count(4) + x.count(5), 0);
        due("5: how many things", Told.text(x, 0, PAIR), 2);
        due("5: the tape is empty", x.count(6), 0);
        for (int i = 0; i < 4; i++) {
            due("5: a taste's number", Told.text(x, 1, "y:" + i), i);
            due("5: a plan's number", Told.text(x, 2, "h0" + i), i);
        }
        due("5: a fifth taste", Told.text(x, 1, "y:9"), NONE);
        due("5: its tape stays", x.count(6), 3);
        due("5: it has no fault", x.fault(1), NONE);
        due("5: a fifth plan", Told.text(x, 2, "h09"), NONE);
        due("5: the fourth is as it was", x.step(3, 0, 3), 3);
        x.taste(3);
        due("5: the fourth taste", x.joy(0, 0, 0), 3);
        x.theft(7);
        x.have(0, 0);
        x.pledge(0, 1, 1, 1, 1);
        x.days(3);
        x.found(0, 0);
        x.claim(0, 0, 0, 0);
        x.image();
        due("5: a fault changes nothing", Told.text(x, 0, "x;x"), NONE);
        due("5: not the day", x.count(8), 3);
        due("5: another market", Told.text(x, 0, "x;x;x;p"), 3);
        int[] want = {3, 1, 0, 0, 4, 4, 0, 3, 0, 7, 0, 0, 0, 0, 0, 0};
        for (int what = 0; what < want.length; what++) {
            due("5: count " + what + " of another market", x.count(what), want[what]);
        }
        due("5: no image of it", x.back(), NONE);
        due("5: nothing to undo", x.undo(), NONE);
        due("5: its firsts", x.firsts(0, 0), 1);
    }

    private static void toldThings() {
        FirstTimes x = Told.market("xv7r3;x;pm5g6l1;p;sa1b0p9;s;cb0a1;c");
        int[][] things = {{7, 3}, {10, 0}};
        int[][] spoils = {{1, 0, 9}, {0, 1, 5}};
        int[][] comings = {{1, 0}, {0, 1}};
        String[][] persons = {{"5", "6", "1", "0", "0"}, {"20", "20", "-1", "0", "0"}};
        for (int i = -1; i <= 2; i++) {
            boolean there = i == 0 || i == 1;
            for (int what = -1; what <= 5; what++) {
                due("6", x.thing(i, what), there && what >= 0 && what < 2 ? things[i][what] : NONE);
                due("9", x.spoil(i, what), there && what >= 0 && what < 3 ? spoils[i][what] : NONE);
                due("10", x.coming(i, what), there && what >= 0 && what < 2 ? comings[i][what] : NONE);
                due("7", Told.person(x, i, what), there && what >= 0 && what < 5 ? persons[i][what] : "throws");
            }
            for (int t = -1; t <= 2; t++) {
                due("8", x.firsts(i, t), there && (t == 0 || t == 1) ? 1 : NONE);
            }
        }
        due("6: far out", x.thing(Integer.MIN_VALUE, Integer.MAX_VALUE), NONE);
        due("7: far out", Told.person(x, Integer.MAX_VALUE, 0), "throws");
        due("8: far out", x.firsts(Integer.MAX_VALUE, Integer.MIN_VALUE), NONE);
    }

    private static int worth(String taste) {
        FirstTimes x = Told.market("xv7r3;x;pm41g52l0;p");
        x.days(2);
        Told.text(x, 1, taste);
        x.taste(0);
        return x.joy(0, 0, 0);
    }

    private static void tastes() {
        FirstTimes x = Told.market(PAIR);
        due("11: none", x.taste(NONE), true);
        due("11: no such one", x.taste(0), false);
        due("13: whole without a taste", x.joy(0, 1, 0), 30);
        due("13: twice what it likes", x.joy(1, 1, 0), 60);
        Told.text(x, 1, "y:v+r*100");
        due("11: none holds by itself", x.count(7), NONE);
        due("11: the first", x.taste(0), true);
        due("11: again", x.taste(0), true);
        due("11: none behind it", x.taste(1), false);
        due("11: below none", x.taste(-2), false);
        due("11: which holds", x.count(7), 0);
        due("13: by it, not twice", x.joy(1, 1, 0), 230);
        due("12: 0 at first", x.theft(0), false);
        due("12: 99", x.theft(99), true);
        due("12: it is so", x.theft(99), false);
        due("12: 100", x.theft(100), false);
        due("12: below 0", x.theft(-1), false);
        due("12: count", x.count(9), 99);
        due("13: what", x.joy(0, 0, 3), NONE);
        due("13: what", x.joy(0, 0, -1), NONE);
        due("13: no such person", x.joy(2, 0, 0), NONE);
        due("13: no such thing", x.joy(0, 2, 0), NONE);

        due("letters", worth("y:v*100+r*10+l"), 731);
        due("letters", worth("y:d*100+g+h"), 254);
        due("letters", worth("y:m"), 43 - 2);
        due("held within 999", worth("y:9999"), 999);
        due("held within 0", worth("y:0-1"), 0);
        due("no clause holds", worth("y:1=2?5"), 0);
        due("the first that holds", worth("y:1=2?5;y:1=1?6;y:7"), 6);
        due("without a condition", worth("y:1=2?5;y:8;y:7"), 8);
        due("* ahead of +", worth("y:1+2*3"), 7);
        due("* ahead of -, from the left", worth("y:20-2*3-4*2"), 6);
        due("from the left", worth("y:100/7*7"), 98);
        due("[ ]", worth("y:[1+2]*3"), 9);
        due("/ by 0", worth("y:5+7/[v-7]"), 5);
        due("/ cuts towards 0", worth("y:10+[0-7]/2"), 7);
        due("held behind each sign", worth("y:9999*9999-9999*99"), 1000000 - 989901 > 999 ? 999 : 0);
        due("held behind each sign", worth("y:[9999*9999-9999*100]/100"), (1000000 - 999900) / 100);
        due("held below, too", worth("y:[[0-9999]*9999+9999*100+200]/10"), 10);
        due("& ahead of |", worth("y:1=1|1=1&1=2?5"), 5);
        due("( )", worth("y:(1=1|1=1)&1=2?5;y:6"), 6);
        due("! takes one unit", worth("y:!1=2&1=1?5;y:6"), 5);
        due("! of ( )", worth("y:!(1=2|1=1)?5;y:6"), 6);
        due("!!", worth("y:!!1=1?5;y:6"), 5);
        due("<", worth("y:1<2?5;y:6"), 5);
        due("< of alike", worth("y:2<2?5;y:6"), 6);
        due(">", worth("y:2>1?5;y:6"), 5);
        due("> of alike", worth("y:2>2?5;y:6"), 6);
        due("several |", worth("y:1=2|1=3|1=1|1=4?5;y:6"), 5);
        due("several &", worth("y:1=1&2=2&3=4?5;y:6"), 6);
    }

    private static void having() {
        FirstTimes x = Told.market("xv11;xv20;xv30;pl2;p;sa0b1p5;sa2b1p9;sa0b2p4");
        due("14: joy", x.have(0, 0), 11);
        due("14: no first is left", x.have(0, 0), NONE);
        due("14: no such person", x.have(2, 0), NONE);
        due("14: no such thing", x.have(0, 3), NONE);
        due("14: spoilt by what was had", x.joy(0, 1, 1), 5);
        due("14: not for another one", x.joy(1, 1, 1), 0);
        due("14: liked and spoilt", x.have(0, 2), 36);
        due("13: 10 parts at most", x.joy(0, 1, 1), 10);
        due("13: whole stays", x.joy(0, 1, 0), 20);
        due("14: nothing is left of it", x.have(0, 1), 0);
        due("7: joy so far", Told.person(x, 0, 3), "47");
        due("7: what it had", Told.person(x, 0, 4), "7");
        due("8: used", x.firsts(0, 1), 0);
        due("14: cut", x.joy(1, 0, 2), 11);
        FirstTimes y = Told.market("xv11;xv19;p;sa0b1p5");
        y.have(0, 0);
        due("13: joy is cut", y.joy(0, 1, 2), 9);
    }

    private static void comings() {
        // 0 brings 1 and 3; 1 brings 2, which comes ahead of 3.
        FirstTimes x = Told.market("xv10;xv21;xv30;xv41;p;p;ca0b1;ca0b3;ca1b2;ca2b0;sa2b3p5");
        due("14: with what came", x.have(0, 0), 10 + 10 + 15 + 10);
        int[] things = {3, 2, 1, 0};
        int[] joys = {10, 15, 10, 10};
        for (int i = 0; i < 4; i++) {
            due("22: thing", x.log(i, 1), things[i]);
            due("22: joy", x.log(i, 2), joys[i]);
        }
        due("7: all had", Told.person(x, 0, 4), "15");
        due("8: firsts of what came are used", x.firsts(0, 3), 0);
        due("14: one act", x.undo(), 0);
        due("14: undone whole", Told.person(x, 0, 4), "0");

        due("a first is needed to come", x.sell(0, 1, 1, 0), 20);
        due("14: without it nothing behind it comes", x.have(0, 0), 10 + 20);
        due("14: what was had does not come again", x.have(1, 1), 21 + 15 + 5 + 10);
        due("14: had again with one bought", x.have(1, 1), 21);

        // The number of things had grows while things come.
        FirstTimes y = Told.market("x;x;x;p;ca0b1;ca1b2");
        Told.text(y, 1, "y:10+h*20");
        y.taste(0);
        due("14: worth as it is then", y.have(0, 0), 10 + 15 + 25);
    }

    private static void selling() {
        FirstTimes x = Told.market(PAIR);
        due("15: money of the seller", x.sell(0, 1, 0, 40), 60);
        due("15: the other one paid", Told.person(x, 1, 0), "0");
        due("15: the first went over", x.firsts(1, 0), 2);
        due("15: from the seller", x.firsts(0, 0), 0);
        due("15: no first", x.sell(0, 1, 0, 0), NONE);
        due("15: too little money", x.sell(0, 1, 1, 1), NONE);
        due("15: for nothing", x.sell(0, 1, 1, 0), 60);
        due("15: alike", x.sell(1, 1, 1, 0), NONE);
        due("15: price below 0", x.sell(1, 0, 1, -1), NONE);
        due("15: no such seller", x.sell(-1, 0, 1, 0), NONE);
        due("15: no such buyer", x.sell(1, 2, 1, 0), NONE);
        due("15: no such thing", x.sell(1, 0, 2, 0), NONE);
        due("15: all of its money", x.sell(1, 0, 1, 60), 60);
        FirstTimes y = Told.market("x;x;pm99;pm99");
        y.sell(0, 1, 0, 99);
        due("15: 100 is out of bounds", y.sell(1, 0, 0, 100), NONE);
        due("15: 99 is not", y.sell(1, 0, 0, 99), 99);
    }

    private static void stealing() {
        FirstTimes x = Told.market(PAIR);
        due("16: firsts of the thief", x.steal(0, 1, 0), 2);
        due("16: of the other one", x.firsts(1, 0), 0);
        due("16: it holds none", x.steal(0, 1, 0), NONE);
        due("16: alike", x.steal(0, 0, 0), NONE);
        due("16: no such thief", x.steal(2, 0, 0), NONE);
        due("16: no such other", x.steal(0, 2, 0), NONE);
        due("16: no such thing", x.steal(0, 1, 2), NONE);
        due("16: back", x.steal(1, 0, 0), 1);
        due("16: money stays", Told.person(x, 1, 0), "40");
    }

    private static void pledging() {
        FirstTimes x = Told.market(PAIR);
        due("17: days 0", x.pledge(0, 1, 0, 5, 0), NONE);
        due("17: days 31", x.pledge(0, 1, 0, 5, 31), NONE);
        due("17: alike", x.pledge(0, 0, 0, 5, 1), NONE);
        due("17: too little money", x.pledge(1, 0, 0, 21, 1), NONE);
        due("17: price", x.pledge(0, 1, 0, -1, 1), NONE);
        due("17: one", x.pledge(0, 1, 0, 5, 30), 1);
        due("17: no first", x.pledge(0, 1, 0, 5, 30), NONE);
        due("17: two", x.pledge(1, 0, 1, 7, 2), 2);
        int[] want = {1, 0, 1, 7, 2};
        for (int what = -1; what <= 5; what++) {
            due("18: " + what, x.pledged(1, what), what >= 0 && what < 5 ? want[what] : NONE);
        }
        due("18: no such one", x.pledged(2, 0), NONE);
        due("18: no such one", x.pledged(-1, 0), NONE);
        due("17: money went over", Told.person(x, 0, 0), "18");
        due("17: laid aside", x.firsts(1, 1), 0);
        due("43: laid aside is left", x.last(1), 2);
        due("19: no such one", x.redeem(2), NONE);
        due("19: no such one", x.redeem(-1), NONE);
        due("19: the price and one", x.redeem(0), 12);
        due("19: to who paid", Told.person(x, 1, 0), "48");
        due("19: its own again", x.firsts(0, 0), 1);
        due("19: those behind are one lower", x.pledged(0, 3), 7);
        x.days(2);
        due("20: it went over to who paid", x.firsts(0, 1), 2);
        due("20: no pledge then", x.count(10), 0);

        FirstTimes y = Told.market("x;x;pm0;pm20");
        y.pledge(0, 1, 0, 20, 3);
        due("19: too little by one", y.redeem(0), NONE);
        due("17: one sold", y.sell(0, 1, 1, 0), 20);
        due("19: still too little", y.redeem(0), NONE);
        FirstTimes z = Told.market("x;x;x;x;x;x;x;x;pm1;pm0");
        for (int t = 0; t < 8; t++) {
            due("17: eight", z.pledge(0, 1, t, 0, 1 + t % 2), t + 1);
        }
        due("17: there are eight", z.pledge(1, 0, 0, 0, 1), NONE);
        due("20: those that are due", z.days(1), 1);
        for (int i = 0; i < 4; i++) {
            due("18: the others are left in their row", z.pledged(i, 2), 2 * i + 1);
        }
        due("20: the next", z.days(1), 2);
        due("20: all went over", z.repeats(0, 0), 8);
    }

    private static void days() {
        FirstTimes x = Told.market(PAIR);
        due("20: 0", x.days(0), NONE);
        due("20: 31", x.days(31), NONE);
        due("20: below 0", x.days(Integer.MIN_VALUE), NONE);
        due("20: two", x.days(2), 2);
        due("20: each is an act", x.count(14), 2);
        due("20: ages", Told.person(x, 0, 1), "22");
        due("20: 99 at most", Told.person(x, 1, 1), "99");
        due("13: whole rises", x.joy(0, 1, 0), 34);
        for (int i = 0; i < 33; i++) {
            x.days(30);
        }
        due("20: 992", x.count(8), 992);
        due("20: above 999", x.days(8), NONE);
        due("41: above 999", x.years(8, 0L), NONE);
        due("20: 999", x.days(7), 999);
        due("20: no more", x.days(1), NONE);
        due("13: whole is held", x.joy(1, 1, 0), 999);
        Told.text(x, 2, "h00;d;h01");
        due("24: a day above 999 can't be", x.run(0, 0), 1);
        due("25: nor be done", x.perform(0), 1);
        due("31: days to come have no such bound", x.awaits(0, 1, 30, 0, 1), 999);
        due("33: nor have habits", x.kept(0, 0, 30), 999);
    }

    private static void undoing() {
        FirstTimes x = Told.market(PAIR);
        due("21: none", x.undo(), NONE);
        x.have(0, 0);
        x.sell(0, 1, 1, 3);
        x.steal(0, 1, 0);
        x.pledge(1, 0, 1, 2, 1);
        x.redeem(0);
        x.days(1);
        due("14: acts", x.count(14), 6);
        x.sell(0, 0, 0, 0);
        x.have(7, 7);
        due("21: what was refused is no act", x.undo(), 5);
        due("21: the day", x.count(8), 0);
        due("21: redeem", x.undo(), 4);
        due("21: the pledge is back", x.pledged(0, 3), 2);
        due("21: pledge", x.undo(), 3);
        due("21: none", x.count(10), 0);
        due("21: steal", x.undo(), 2);
        due("21: none", x.firsts(0, 0), 0);
        due("21: sell", x.undo(), 1);
        due("21: money", Told.person(x, 1, 0), "40");
        due("21: have", x.undo(), 0);
        due("21: the log, too", x.count(11), 0);
        due("21: joy", x.count(15), 0);
        due("21: had", Told.person(x, 0, 4), "0");
        due("21: no more", x.undo(), NONE);
        x.have(0, 0);
        x.days(30);
        x.days(10);
        due("21: 40 at most", x.count(14), 40);
        for (int i = 39; i >= 0; i--) {
            due("21: one by one", x.undo(), i);
        }
        due("21: the 41st is no more", x.undo(), NONE);
        due("21: it stays", x.count(11), 1);
        due("21: on day 0", x.count(8), 0);
    }

    private static void logs() {
        FirstTimes x = Told.market("x;x;x;x;x;x;x;x;p;p;p;p;p;p");
        for (int p = 0; p < 6; p++) {
            for (int t = 0; t < 8; t++) {
                x.have(p, t);
            }
            x.days(1);
        }
        due("22: 48", x.count(11), 48);
        int[] want = {5, 7, 10, 5};
        for (int what = -1; what <= 4; what++) {
            due("22: latest", x.log(0, what), what >= 0 && what < 4 ? want[what] : NONE);
        }
        due("22: the oldest", x.log(47, 0), 0);
        due("22: none behind it", x.log(48, 0), NONE);
        due("22: none below 0", x.log(-1, 0), NONE);
        due("22: undone", x.undo(), 39);
        // Firsts are never made, so no log is longer than those of six persons and eight things.
        FirstTimes y = Told.market("x;xv2;x;x;x;x;x;x;p;p;p;p;p;p");
        y.image();
        fill(y);
        due("22: 48", y.count(11), 48);
        due("22: gone with it", y.back() == 0 && y.count(11) == 0, true);
        fill(y);
        due("22: 48 again", y.count(11), 48);
    }

    private static void fill(FirstTimes x) {
        for (int p = 0; p < 6; p++) {
            for (int t = 0; t < 8; t++) {
                x.have(p, t);
            }
        }
    }

    private static void plans() {
        FirstTimes x = Told.market(PAIR);
        due("5: plan", Told.text(x, 2, "h01;s010,5;t100;d;h11;h19;d"), 0);
        int[][] want = {{0, 0, NONE, 1, NONE}, {1, 0, 1, 0, 5}, {2, 1, 0, 0, NONE}, {3, NONE, NONE, NONE, NONE}};
        for (int i = 0; i < 4; i++) {
            for (int what = -1; what <= 5; what++) {
                due("23: " + i + " " + what, x.step(0, i, what), what >= 0 && what < 5 ? want[i][what] : NONE);
            }
        }
        due("23: digits of none that is there", x.step(0, 5, 3), 9);
        due("23: no such step", x.step(0, 7, 0), NONE);
        due("23: no such step", x.step(0, -1, 0), NONE);
        due("23: no such plan", x.step(1, 0, 0), NONE);
        due("23: no such plan", x.step(-1, 0, 0), NONE);
        due("24: t100 can't be", x.run(0, 0), 2);
        due("24: joy up to there", x.run(0, 1), 30);
        due("24: what", x.run(0, 2), HIDDEN);
        due("24: what", x.run(0, -1), HIDDEN);
        due("24: no such plan", x.run(1, 0), HIDDEN);
        due("24: no such plan", x.run(-1, 0), HIDDEN);
        due("24: apart", x.count(14), 0);
        due("24: apart", x.count(11), 0);
        Told.text(x, 2, "h01;s010,5;d;h11");
        due("24: all can be", x.run(1, 0), NONE);
        due("24: joy of all", x.run(1, 1), 30 + 64);
        due("25: all", x.perform(1), 4);
        due("25: as acts", x.count(14), 4);
        due("25: joys", x.count(15), 94);
        due("24: joy by it alone", x.run(1, 1), 0);
        due("25: none", x.perform(1), 0);
        due("25: no such plan", x.perform(2), NONE);
        due("25: no such plan", x.perform(-1), NONE);
        due("21: a step is undone", x.undo(), 3);
        due("21: its joy", x.count(15), 30);
        Told.text(x, 2, "s000,0");
        due("24: alike can't be", x.run(2, 0), 0);
        Told.text(x, 2, "s100,99");
        due("24: too little money", x.run(3, 0), 0);
    }

    private static void orders() {
        FirstTimes x = Told.market("xv10;xv20;xv30;p;p;sa0b1p5;sa1b2p5");
        due("26: digits", x.order(0, 7, 0), 210);
        due("26: joy", x.order(0, 7, 1), 60);
        due("26: of a set", x.order(0, 3, 0), 10);
        due("26: one", x.order(0, 1, 0), 0);
        due("26: none", x.order(0, 0, 0), NONE);
        due("26: none", x.order(0, 0, 1), 0);
        due("26: no such thing", x.order(0, 8, 0), HIDDEN);
        due("26: below 0", x.order(0, -1, 0), HIDDEN);
        due("26: no such person", x.order(2, 7, 0), HIDDEN);
        due("26: what", x.order(0, 7, 2), HIDDEN);
        due("26: what", x.order(0, 7, -1), HIDDEN);
        x.have(0, 1);
        due("26: what was had is left out", x.order(0, 7, 0), 2);
        due("26: and spoils", x.order(0, 7, 1), 25);
        x.steal(0, 1, 1);
        due("26: also with a first of it", x.order(0, 7, 0), 2);
        x.sell(0, 1, 2, 0);
        due("26: without a first it is left out", x.order(0, 7, 0), 0);
        due("26: apart", x.count(11), 1);
        // A row is short where things come; here as much joy with and without.
        FirstTimes y = Told.market("xv10;xv0;p;ca0b1");
        due("26: the shortest", y.order(0, 3, 0), 0);
        due("26: its joy", y.order(0, 3, 1), 10);
        // What gives nothing is had all the same.
        FirstTimes z = Told.market("xv0;xv0;p");
        due("26: the least as digits", z.order(0, 3, 0), 1);
        // What is not in the set comes, too.
        FirstTimes w = Told.market("xv10;xv20;xv30;p;ca0b2;sa2b1p9");
        due("26: what comes counts and spoils", w.order(0, 3, 0), 10);
        due("26: its joy", w.order(0, 3, 1), 20 + 10 + 15);
        due("26: eight", Told.market("x;x;x;x;x;x;x;x;p").order(0, 255, 0), 1234567);
        // By a taste joy falls with what was had: the dear one first.
        FirstTimes v = Told.market("xv10;xv90;p");
        Told.text(v, 1, "y:v/[h+1]");
        v.taste(0);
        due("26: by a taste", v.order(0, 3, 0), 10);
        due("26: by a taste", v.order(0, 3, 1), 95);
    }

    private static void cleanAndRings() {
        FirstTimes x = Told.market("x;x;x;x;p;sa0b3;sa1b2p1");
        due("27: least", x.clean(), 2130);
        due("28: none", x.rings(), 0);
        due("27: no spoils", Told.market("x;x;x;p").clean(), 12);
        FirstTimes y = Told.market("x;x;x;p;sa0b1;sa1b2;sa2b0;sa1b0;s");
        due("27: no row", y.clean(), NONE);
        due("28: two to be left out", y.rings(), 2);
        // The same spoil told twice is two to be left out.
        FirstTimes z = Told.market("x;x;p;s;s;s;sa1b0;sa1b0");
        due("28: the fewer", z.rings(), 2);
        due("27: eight", Told.market("x;x;x;x;x;x;x;x;p;sa0b7").clean(), 12345670);
        FirstTimes w = Told.market("x;x;p;s");
        w.have(0, 0);
        due("27: by spoils alone", w.clean(), 10);
    }

    private static void matches() {
        FirstTimes x = Told.market("xv10;xv20;p;pl0;p");
        due("29: digits", x.pairing(0), 108);
        due("29: how much", x.pairing(1), 40);
        due("29: what", x.pairing(2), NONE);
        due("29: what", x.pairing(-1), NONE);
        for (int p = 0; p < 3; p++) {
            x.have(p, 1);
        }
        due("29: nobody holds 1", x.pairing(0), 808);
        due("29: how much", x.pairing(1), 20);
        x.pledge(0, 1, 0, 0, 9);
        x.have(1, 0);
        x.have(2, 0);
        due("29: laid aside is not held", x.pairing(0), 888);
        due("29: nothing", x.pairing(1), 0);
        // Rather one that gives nothing than none: its digit is less.
        due("29: of nothing", Told.market("xv0;xv0;p;p;p").pairing(0), 18);
        due("29: six persons", Told.market("x;x;x;x;x;x;x;x;p;p;p;p;p;p").pairing(0), 12345);
        FirstTimes y = Told.market("xv10;xv10;p;p;sa0b1p9");
        y.have(0, 0);
        due("29: joy as it is for each", y.pairing(0), 1);
        due("29: one that has it no more may have it", y.pairing(1), 20);
    }

    private static void sales() {
        FirstTimes x = Told.market("xv10;xv20;p;pl0;pl1;p");
        due("30: the most joy", x.sale(0, 0), 1);
        due("30: pays the next", x.sale(0, 1), 10);
        due("30: another", x.sale(1, 0), 2);
        due("30: what", x.sale(1, 2), NONE);
        due("30: what", x.sale(1, -1), NONE);
        due("30: no such thing", x.sale(2, 0), NONE);
        due("30: no such thing", x.sale(-1, 0), NONE);
        FirstTimes y = Told.market("xv10;x;p;p;p");
        due("30: of several the lowest", y.sale(0, 0), 0);
        due("30: as much as it", y.sale(0, 1), 10);
        FirstTimes z = Told.market("xv10;x;p");
        due("30: alone", z.sale(0, 0), 0);
        due("30: nobody else", z.sale(0, 1), 0);
        FirstTimes w = Told.market("xv0;x;p;p");
        due("30: of nothing", w.sale(0, 0), 0);
        FirstTimes v = Told.market("xv10;xv20;pl1;p;sa0b1p5");
        v.have(0, 0);
        due("30: spoilt", v.sale(1, 0), 0);
        v.have(1, 1);
        due("30: next", v.sale(1, 1), 20);
    }

    private static void waits() {
        FirstTimes x = Told.market("xv10r5;xv10;pg98;p");
        due("31: 0 days", x.awaits(0, 0, 0, 50, 0), 0);
        due("31: 0 days", x.awaits(0, 0, 0, 50, 1), 10);
        due("31: all", x.awaits(0, 0, 30, 0, 0), 30);
        due("31: all", x.awaits(0, 0, 30, 0, 1), 160);
        // 10, 13.5, 16.2, 18.225, 19.683, 20.66.., 21.2576 on day 6, 21.5233, 21.5233 cut alike: the fewest.
        due("31: parts", x.awaits(0, 0, 30, 10, 0), 6);
        due("31: parts", x.awaits(0, 0, 30, 10, 1), 21);
        due("31: of several the fewest", x.awaits(0, 1, 30, 0, 0), 0);
        due("31: all are gone", x.awaits(0, 0, 30, 100, 0), 0);
        due("31: days", x.awaits(0, 0, 31, 0, 0), NONE);
        due("31: days", x.awaits(0, 0, -1, 0, 0), NONE);
        due("31: chance", x.awaits(0, 0, 1, 101, 0), NONE);
        due("31: chance", x.awaits(0, 0, 1, -1, 0), NONE);
        due("31: what", x.awaits(0, 0, 1, 1, 2), NONE);
        due("31: what", x.awaits(0, 0, 1, 1, -1), NONE);
        due("31: no such person", x.awaits(2, 0, 1, 1, 0), NONE);
        due("31: no such thing", x.awaits(0, 2, 1, 1, 0), NONE);
        Told.text(x, 1, "y:g*10-d");
        x.taste(0);
        due("31: ages 99 at most", x.awaits(0, 0, 30, 0, 0), 1);
        due("31: as old", x.awaits(0, 0, 30, 0, 1), 989);
        x.have(0, 0);
        due("31: no first", x.awaits(0, 0, 1, 1, 0), NONE);
        due("31: apart", x.count(8), 0);
    }

    private static void repeats() {
        FirstTimes x = Told.market("x;x;x;p;p");
        x.have(0, 0);
        due("32: one", x.repeats(0, 0), 1);
        x.pledge(0, 1, 1, 0, 5);
        due("32: laid aside", x.repeats(0, 60), 2);
        x.have(1, 1);
        due("32: not yet due", x.repeats(1, 4), 1);
        due("32: due", x.repeats(1, 5), 0);
        x.days(3);
        due("32: from today", x.repeats(1, 1), 1);
        due("32: from today", x.repeats(1, 2), 0);
        due("32: days", x.repeats(0, 61), NONE);
        due("32: days", x.repeats(0, -1), NONE);
        due("32: no such person", x.repeats(2, 0), NONE);
        due("32: no such person", x.repeats(-1, 0), NONE);
        due("32: apart", x.count(8), 3);
    }

    private static void habits() {
        // 0 spoils 1 by 9; 1 is the dearest; 2 spoils 0 by 1.
        FirstTimes x = Told.market("xv10;xv50r1;xv20;p;p;sa0b1p9;sa2b0p1");
        due("33: the lowest", x.kept(0, 0, 3), 10 + 5 + 20);
        due("33: the most joy", x.kept(0, 1, 3), 50 + 20 + 9);
        due("33: what spoils the least", x.kept(0, 2, 3), 50 + 10 + 20);
        due("33: none, then all", x.kept(0, 3, 3), 52 + 10 + 20);
        due("33: one day", x.kept(0, 3, 1), 80);
        due("33: one day", x.kept(0, 0, 1), 10);
        due("33: more days than things", x.kept(0, 0, 30), 35);
        due("34: the best", x.habit(0, 3, 0), 3);
        due("34: its joy", x.habit(0, 3, 1), 82);
        due("33: no such habit", x.kept(0, 4, 1), NONE);
        due("33: no such habit", x.kept(0, -1, 1), NONE);
        due("33: no such person", x.kept(2, 0, 1), NONE);
        due("33: days", x.kept(0, 0, 0), NONE);
        due("33: days", x.kept(0, 0, 31), NONE);
        due("34: no such person", x.habit(2, 1, 0), NONE);
        due("34: days", x.habit(0, 0, 0), NONE);
        due("34: days", x.habit(0, 31, 0), NONE);
        due("34: what", x.habit(0, 1, 2), NONE);
        due("34: what", x.habit(0, 1, -1), NONE);
        due("33: apart", x.count(11), 0);
        x.pledge(1, 0, 0, 0, 2);
        x.have(0, 0);
        x.sell(0, 1, 1, 0);
        x.sell(0, 1, 2, 0);
        due("33: what was had is not had again", x.kept(0, 0, 9), 0);
        x.undo();
        x.pledge(1, 0, 1, 0, 2);
        due("33: pledges fall due", x.kept(0, 0, 2), 20);
        due("33: on day 2", x.kept(0, 0, 3), 20 + 5);
        due("33: none, then all with it", x.kept(0, 3, 3), 20 + 5);
        due("34: of several the lowest", x.habit(0, 3, 0), 0);
    }

    private static void founds() {
        FirstTimes x = Told.market("x;x;x;p;sa0b1p5;sa2b1p5;sa1b2p9");
        due("36: all sets", x.must(NONE), 8);
        due("36: the first", x.must(0), 0);
        due("36: the last", x.must(7), 7);
        due("36: no such one", x.must(8), NONE);
        due("36: no such one", x.must(-2), NONE);
        due("37: nothing is sure", x.sure(), 0);
        due("35: one", x.found(1, 5), 1);
        due("36: 0 or 2", x.must(NONE), 4);
        int[] want = {1, 3, 4, 6};
        for (int i = 0; i < 4; i++) {
            due("36: rising", x.must(i), want[i]);
        }
        due("37: not sure", x.sure(), 0);
        due("35: two", x.found(2, 9), 2);
        due("36: with 1", x.must(0), 3);
        due("36: it had 2 itself", x.must(1), 6);
        due("37: 1 is sure", x.sure(), 2);
        due("35: no such thing", x.found(3, 0), NONE);
        due("35: no such thing", x.found(-1, 0), NONE);
        due("35: above 10", x.found(0, 11), NONE);
        due("35: below 0", x.found(0, -1), NONE);
        for (int i = 3; i <= 12; i++) {
            due("35: twelve", x.found(0, 0), i);
        }
        due("35: there are 12", x.found(0, 0), NONE);
        due("37: still", x.sure(), 2);
        x.have(0, 0);
        x.undo();
        due("21: found is no act", x.count(12), 12);
        FirstTimes y = Told.market("x;x;p;p;sp9;sp9");
        y.found(1, 10);
        due("36: 10 at most", y.must(0), 1);
        y.found(1, 9);
        due("36: no set", y.must(NONE), 0);
        due("36: none", y.must(0), NONE);
        due("37: no set fits", y.sure(), NONE);
    }

    private static void claims() {
        FirstTimes x = Told.market("x;x;p;p;p");
        due("39: no claim", x.could(0), 0);
        due("40: no claim", x.alone(0), NONE);
        due("38: one", x.claim(1, 0, 3, 9), 1);
        due("39: it alone", x.could(0), 2);
        due("40: it alone", x.alone(0), 1);
        due("38: two", x.claim(2, 0, 13, 0), 2);
        due("39: behind its last day", x.could(0), 2);
        due("38: three", x.claim(0, 0, 12, 0), 3);
        due("39: at once with it on its last day", x.could(0), 3);
        due("40: not sure", x.alone(0), NONE);
        due("38: of several the earliest", x.claim(1, 0, 11, 0), 4);
        due("39: by day 11", x.could(0), 2);
        due("40: sure", x.alone(0), 1);
        due("39: another thing", x.could(1), 0);
        due("38: day 0", x.claim(0, 1, 0, 9), 5);
        due("38: day 99", x.claim(1, 1, 99, 9), 6);
        due("40: ahead", x.alone(1), 0);
        due("38: day 100", x.claim(0, 0, 100, 0), NONE);
        due("38: day -1", x.claim(0, 0, -1, 0), NONE);
        due("38: e 10", x.claim(0, 0, 0, 10), NONE);
        due("38: e -1", x.claim(0, 0, 0, -1), NONE);
        due("38: no such person", x.claim(3, 0, 0, 0), NONE);
        due("38: no such thing", x.claim(0, 2, 0, 0), NONE);
        due("39: no such thing", x.could(2), NONE);
        due("39: no such thing", x.could(-1), NONE);
        due("40: no such thing", x.alone(2), NONE);
        for (int i = 7; i <= 12; i++) {
            due("38: twelve", x.claim(2, 1, 50, 0), i);
        }
        due("38: there are 12", x.claim(2, 1, 50, 0), NONE);
        // Not ahead of day 0: both on day 0 for sure.
        FirstTimes y = Told.market("x;x;p;p");
        y.claim(0, 0, 0, 0);
        y.claim(1, 0, 0, 9);
        due("39: not ahead of day 0", y.could(0), 3);
        due("40: at once is not alone", y.alone(0), NONE);
    }

    private static void years() {
        FirstTimes x = Told.market("x;x;p;p");
        due("41: 0", x.years(0, 1L), NONE);
        due("41: 31", x.years(31, 1L), NONE);
        due("41: three", x.years(3, -1L), 3);
        due("41: each day is an act", x.count(14), 3);
        due("41: undone", x.undo(), 2);
        due("41: the day", x.count(8), 2);
        x.undo();
        x.undo();
        due("41: all undone", x.count(15), 0);
        // Draws by hand, with another order of the same numbers.
        java.math.BigInteger two64 = java.math.BigInteger.ONE.shiftLeft(64);
        java.math.BigInteger n = java.math.BigInteger.valueOf(5);
        int[] things = new int[2];
        for (int i = 0; i < 2; i++) {
            n = n.multiply(new java.math.BigInteger("6364136223846793005"))
                    .add(new java.math.BigInteger("1442695040888963407")).mod(two64);
            things[i] = n.shiftRight(33).mod(java.math.BigInteger.TWO).intValue();
        }
        x.years(1, 5L);
        due("41: person 1 drew", x.log(0, 1), things[1]);
        due("41: person 0 drew", x.log(1, 1), things[0]);
        due("42: the lowest", x.richest(), 0);
        FirstTimes y = Told.market("x;x;pm3;pm9;pm9");
        due("42: richest", y.richest(), 1);
        y.sell(2, 0, 0, 1);
        due("42: then", y.richest(), 2);
        y.have(0, 0);
        due("43: last", y.last(0), 2);
        due("43: no such thing", y.last(2), NONE);
        due("43: no such thing", y.last(-1), NONE);
        // Everything is had at some time, and no first is made.
        y.theft(99);
        for (int i = 0; i < 10; i++) {
            y.years(30, i);
        }
        due("43: none is left", y.last(0) + y.last(1), 0);
        due("43: all in the log", y.count(11), 6);
    }

    private static void images() {
        FirstTimes x = Told.market(PAIR);
        due("45: none", x.back(), NONE);
        x.days(2);
        due("44: the day", x.image(), 2);
        x.have(0, 0);
        x.pledge(0, 1, 1, 4, 9);
        x.found(0, 0);
        x.claim(0, 0, 1, 1);
        x.theft(5);
        Told.text(x, 1, "y:1");
        x.taste(0);
        x.days(5);
        due("45: the day", x.back(), 2);
        due("45: no act can be undone", x.undo(), NONE);
        due("45: the log", x.count(11), 0);
        due("45: pledges", x.count(10), 0);
        due("45: firsts", x.firsts(0, 0), 1);
        due("45: money", Told.person(x, 0, 0), "20");
        due("45: ages", Told.person(x, 0, 1), "22");
        due("45: found stays", x.count(12), 1);
        due("45: claims stay", x.count(13), 1);
        due("45: theft stays", x.count(9), 5);
        due("45: which taste holds stays", x.count(7), 0);
        x.days(1);
        due("44: instead of the one ahead", x.image(), 3);
        x.days(1);
        due("45: again", x.back(), 3);
        x.days(1);
        due("45: and again", x.back(), 3);
        x.days(4);
        due("44: acts can be undone behind an image", x.image() == 7 && x.undo() == 3, true);
        due("45: what was undone is back", x.back(), 7);
    }

    private static void counts() {
        FirstTimes x = Told.market("x;x;p;p;p;s;s;c");
        Told.feed(x, "abc");
        int[] want = {2, 3, 2, 1, 0, 0, 3, NONE, 0, 0, 0, 0, 0, 0, 0, 0};
        for (int what = 0; what < want.length; what++) {
            due("46: " + what, x.count(what), want[what]);
        }
        x.pledge(1, 0, 0, 0, 3);
        x.have(0, 0);
        x.days(1);
        due("46: day", x.count(8), 1);
        due("46: pledges", x.count(10), 1);
        due("46: log", x.count(11), 2);
        due("46: acts", x.count(14), 3);
        due("46: joys", x.count(15), 10);
        due("46: others", x.count(16), HIDDEN);
        due("46: others", x.count(-1), HIDDEN);
    }
}
