import java.util.List;
import java.util.function.Consumer;
import java.util.function.ToIntFunction;

/** Each promise's sentences that name a bound of a call, at the bound and just beyond; what is refused changes nothing. */
public final class CallBoundsTest {
    private static final int NONE = FirstTimes.NONE;
    private static final int HIDDEN = FirstTimes.HIDDEN;
    private static final Consumer<FirstTimes> NEW = x -> { };
    private static final Consumer<FirstTimes> LIFE = CallBoundsTest::live;

    private CallBoundsTest() {
    }

    public static void main(String[] args) {
        constants();
        newObject();
        lastCall();
        refusals();
        apart();
        feed();
        end();
        fault();
        text();
        textOfAnotherMarket();
        thing();
        person();
        firsts();
        spoil();
        coming();
        taste();
        theft();
        joy();
        have();
        sell();
        steal();
        pledge();
        pledged();
        redeem();
        days();
        undo();
        log();
        step();
        run();
        perform();
        order();
        cleanAndRings();
        pairing();
        sale();
        awaits();
        repeats();
        kept();
        habit();
        found();
        must();
        sure();
        claim();
        couldAndAlone();
        years();
        richestAndLast();
        imageAndBack();
        count();
        Told.close("CallBoundsTest");
    }

    private static void sentence(int promise, String words) {
        Told.sentence("Promise " + promise + ":", words);
    }

    private static void due(String what, Object got, Object want) {
        Told.due(what, got, want);
    }

    private static void refused(String what, int answer, ToIntFunction<FirstTimes> call) {
        Twins.refused(what, LIFE, answer, call);
    }

    private static void within(String what, int low, int high, int refusal, Twins.Ask call) {
        Twins.within(what, LIFE, low, high, refusal, call);
    }

    private static int bit(boolean b) {
        return b ? 1 : 0;
    }

    /** Three things, two persons, three pledges, two things had, a taste, evidence, an image and acts behind it. */
    private static void live(FirstTimes x) {
        Told.text(x, 0, "xv30r2;xv20;xv7;pm40g98l1;pm9;sa0b1p5;sa1b2p9;ca1b2");
        Told.text(x, 1, "y:v+r*d");
        Told.text(x, 1, "y:v-h");
        Told.text(x, 2, "h00;d;h00;h00");
        x.taste(1);
        x.theft(7);
        x.found(2, 9);
        x.claim(0, 1, 9, 2);
        x.claim(1, 1, 3, 1);
        x.have(0, 1);
        x.pledge(0, 1, 0, 5, 3);
        x.pledge(1, 0, 2, 2, 30);
        x.image();
        x.days(1);
        x.pledge(1, 0, 1, 1, 9);
        x.sell(1, 0, 0, 4);
        Told.feed(x, "x;x");
    }

    private static void constants() {
        Told.sentence("Terms 4", "`NONE = -1`: None; refused.");
        due("NONE", FirstTimes.NONE, -1);
        Told.sentence("Terms 4", "`HIDDEN = -1000000`: Not told.");
        due("HIDDEN", FirstTimes.HIDDEN, -1000000);
    }

    private static void newObject() {
        sentence(1, "No MARKET.");
        FirstTimes x = new FirstTimes();
        for (int what = 0; what < 16; what++) {
            due("count " + what, x.count(what), what == 7 ? NONE : 0);
        }
        for (int sort = 0; sort < 3; sort++) {
            due("an empty tape's fault", x.fault(sort), 0);
            due("an empty tape as a text", x.text(sort), NONE);
        }
        due("end", x.end(0), true);
        due("no taste", x.taste(0), false);
        due("none holds", x.taste(NONE), true);
    }

    private static void lastCall() {
        Told.sentence("What it is", "An object is used for at most 512 calls after it has been made");
        FirstTimes x = new FirstTimes();
        // Four calls of the tape and one of the text stand ahead of the others.
        x.feed(0x783b783b, 0x703b7000, 0, 0, 0);
        x.end(5);
        x.end(5);
        x.count(6);
        due("the fifth call", x.text(0), 2);
        for (int call = 6; call <= 511; call += 2) {
            due("call " + call, x.have(0, 1), 10);
            due("call " + (call + 1), x.undo(), 0);
        }
        due("call 512", x.have(0, 1), 10);
    }

    private static void refusals() {
        Told.sentence("Terms 4", "What is refused answers as told and changes nothing.");
        List<ToIntFunction<FirstTimes>> none = List.of(x -> x.text(3), x -> x.thing(-1, 0), x -> x.firsts(9, 9),
                x -> x.spoil(-1, 0), x -> x.coming(-1, 0), x -> x.joy(0, 0, 3), x -> x.have(0, 9), x -> x.sell(0, 0, 0, 0),
                x -> x.steal(0, 0, 0), x -> x.pledge(0, 1, 0, 0, 31), x -> x.pledged(-1, 0), x -> x.redeem(-1),
                x -> x.days(31), x -> x.log(-1, 0), x -> x.step(-1, 0, 0), x -> x.perform(-1), x -> x.pairing(2),
                x -> x.sale(-1, 0), x -> x.awaits(0, 0, 31, 0, 0), x -> x.repeats(0, 61), x -> x.kept(0, 4, 1),
                x -> x.habit(0, 0, 0), x -> x.found(0, 11), x -> x.must(-2), x -> x.claim(0, 0, 100, 0), x -> x.could(-1),
                x -> x.alone(-1), x -> x.years(31, 1L), x -> x.last(-1));
        List<ToIntFunction<FirstTimes>> hidden = List.of(x -> x.run(-1, 0), x -> x.order(-1, 0, 0), x -> x.count(16));
        List<ToIntFunction<FirstTimes>> no = List.of(x -> bit(x.end(-1)), x -> bit(x.taste(-2)), x -> bit(x.theft(100)));
        for (Consumer<FirstTimes> life : List.of(NEW, LIFE)) {
            Twins.refused("all of these in a row", life, none.size() * NONE, x -> sum(x, none));
            Twins.refused("all of these in a row", life, hidden.size() * HIDDEN, x -> sum(x, hidden));
            Twins.refused("all of these in a row", life, 0, x -> sum(x, no));
            Twins.refused("no such sort", life, -2, x -> x.fault(3));
            Twins.refused("no such person", life, Twins.THROWN, x -> x.person(-1, 0));
        }
    }

    /** What is only asked changes nothing, however far it looks. */
    private static void apart() {
        Told.sentence("Terms 3", "(Apart, from as it is.)");
        List<ToIntFunction<FirstTimes>> asked = List.of(x -> x.order(0, 7, 1), x -> x.order(1, 7, 0), FirstTimes::clean,
                FirstTimes::rings, x -> x.pairing(0), x -> x.pairing(1), x -> x.sale(1, 1), x -> x.awaits(0, 0, 30, 9, 1),
                x -> x.repeats(0, 60), x -> x.kept(0, 0, 30), x -> x.kept(1, 1, 30), x -> x.kept(0, 2, 30),
                x -> x.kept(1, 3, 30), x -> x.habit(0, 30, 0), x -> x.habit(1, 30, 1), x -> x.run(0, 0), x -> x.run(0, 1));
        for (ToIntFunction<FirstTimes> call : asked) {
            FirstTimes x = new FirstTimes();
            live(x);
            int answer = call.applyAsInt(x);
            due("the same again", call.applyAsInt(x), answer);
            sum(x, asked);
            due("the same behind others", call.applyAsInt(x), answer);
            Twins.refused("what is changed", LIFE, answer, call);
        }
    }

    private static int sum(FirstTimes x, List<ToIntFunction<FirstTimes>> calls) {
        int sum = 0;
        for (ToIntFunction<FirstTimes> call : calls) {
            sum += call.applyAsInt(x);
        }
        return sum;
    }

    private static void feed() {
        sentence(2, "NONE: more than 240.");
        Consumer<FirstTimes> nearlyFull = x -> {
            live(x);
            Told.feed(x, "y".repeat(236));
        };
        for (int place = 0; place < 5; place++) {
            int[] one = new int[5];
            one[place] = 0x79000000;
            int[] two = new int[5];
            two[place] = 0x00790079;
            FirstTimes x = new FirstTimes();
            nearlyFull.accept(x);
            due("239", x.count(6), 239);
            due("the 240th", x.feed(one[0], one[1], one[2], one[3], one[4]), 240);
            due("nothing more", x.feed(0, 0, 0, 0, 0), 240);
            Twins.refused("the 241st with the 240th", nearlyFull, NONE, y -> y.feed(two[0], two[1], two[2], two[3], two[4]));
        }
        Twins.refused("twenty on 239", nearlyFull, NONE, y -> y.feed(-1, -1, -1, -1, -1));
        FirstTimes full = new FirstTimes();
        for (int i = 1; i <= 12; i++) {
            due("twenty more", full.feed(-1, -1, -1, -1, -1), 20 * i);
        }
        due("one on 240", full.feed(0, 0, 0, 0, 1), NONE);
        due("240 still", full.count(6), 240);
        sentence(2, "Twenty bytes more come to the TAPE (of each number the highest first; bytes of 0 are left out): how many it "
                + "has.");
        FirstTimes x = new FirstTimes();
        due("none of twenty", x.feed(0, 0, 0, 0, 0), 0);
        due("one of each", x.feed(0x78000000, 0x3b0000, 0x7800, 0x3b, 0x70000000), 5);
        due("in their order", x.text(0), 2);
        due("bytes above 127", x.feed(0xff80ff80, 0, 0, 0, 0x80000000), 5);
    }

    private static void end() {
        sentence(3, "The TAPE has its first n bytes alone. False: n.");
        within("n", 0, 3, 0, (x, n) -> bit(x.end(n)));
        FirstTimes x = new FirstTimes();
        Told.feed(x, "x;x;pq");
        due("all of them", x.end(6), true);
        due("six still", x.count(6), 6);
        due("all but one", x.end(5), true);
        due("no longer six", x.end(6), false);
        due("its first", x.text(0), 2);
        due("an empty one", x.end(0), true);
        due("it has no first", x.end(1), false);
        String[] whole = {"h0 ", "s000,12", "y:1 ", "y:12345", "x;x;p;", "xv99"};
        int[] first = {2, 6, 3, 6, 5, 3};
        int[] sorts = {2, 2, 1, 1, 0, 0};
        int[] want = {2, NONE, NONE, NONE, NONE, 3};
        for (int i = 0; i < whole.length; i++) {
            FirstTimes y = new FirstTimes();
            Told.feed(y, whole[i]);
            y.end(first[i]);
            due("of '" + whole[i] + "' so many bytes", y.fault(sorts[i]), want[i]);
        }
    }

    private static void fault() {
        sentence(4, "NONE: none. -2: no such sort.");
        within("sort", 0, 2, -2, FirstTimes::fault);
        FirstTimes x = new FirstTimes();
        Told.feed(x, "d");
        due("a fault", x.fault(0), 0);
        due("another one", x.fault(1), 0);
        due("none", x.fault(2), NONE);
        due("the tape stays", x.count(6), 1);
        due("no text is made", x.count(5), 0);
        due("the same again", x.fault(2), NONE);
        // What was only looked at leaves nothing behind for the text that is made.
        Told.fault(x, 0, "x;x;x;x;x;x;x;x;p;p;p;s;s;c");
        Told.fault(x, 1, "y:5;y:6");
        Told.fault(x, 1, "y:5+");
        Told.fault(x, 2, "d;d;d;d;d;d;d;d;d;d;d;h99");
        due("a market", Told.text(x, 0, "x;x;p"), 2);
        due("its own alone", x.count(0) + x.count(1) + x.count(2) + x.count(3), 3);
        due("a taste", Told.text(x, 1, "y:7"), 0);
        x.taste(0);
        due("its own sum", x.joy(0, 0, 0), 7);
        due("a plan", Told.text(x, 2, "h01"), 0);
        due("its own steps", x.step(0, 1, 0), NONE);
        due("its own digits", x.step(0, 0, 4), NONE);
    }

    private static void text() {
        sentence(5, "NONE: a FAULT, no such sort, there are four.");
        for (int sort : new int[] {-1, 3, Integer.MIN_VALUE, Integer.MAX_VALUE}) {
            for (String text : new String[] {"x;x;p", "y:1", "d"}) {
                Twins.refused("sort " + sort, taped(text), NONE, x -> x.text(sort));
            }
        }
        String[] texts = {"x;x;p", "y:1", "d"};
        int[] numbers = {2, 2, 1};
        for (int sort = 0; sort < 3; sort++) {
            int asked = sort;
            for (String fault : new String[] {"", ";", "q"}) {
                Twins.refused("a fault", taped(texts[sort].substring(fault.isEmpty() ? 1 : 0) + fault), NONE,
                        x -> x.text(asked));
            }
            FirstTimes x = new FirstTimes();
            taped(texts[sort]).accept(x);
            due("without a fault", x.text(sort), numbers[sort]);
            due("the tape is empty then", x.count(6), 0);
        }
        for (int sort = 1; sort < 3; sort++) {
            int asked = sort;
            Twins.refused("a fifth one", four(sort, texts[sort]), NONE, x -> x.text(asked));
        }
        FirstTimes x = new FirstTimes();
        for (int i = 2; i <= 8; i++) {
            due("any number of markets", Told.text(x, 0, "x;".repeat(i) + "p"), i);
        }
    }

    private static Consumer<FirstTimes> taped(String text) {
        return x -> {
            live(x);
            x.end(0);
            Told.feed(x, text);
        };
    }

    private static Consumer<FirstTimes> four(int sort, String text) {
        return x -> {
            live(x);
            for (int i = x.count(3 + sort); i < 4; i++) {
                due("one more", Told.text(x, sort, text), i);
            }
            x.end(0);
            Told.feed(x, text);
        };
    }

    private static void textOfAnotherMarket() {
        sentence(5, "The TAPE (empty then) is the MARKET (DAY 0; all that was of another one is gone but TASTES, which holds, "
                + "PLANS, THEFT): how many THINGS");
        FirstTimes x = new FirstTimes();
        live(x);
        due("another market", Told.text(x, 0, "x;xv20;p"), 2);
        int[] want = {2, 1, 0, 0, 2, 1, 0, 1, 0, 7, 0, 0, 0, 0, 0, 0};
        for (int what = 0; what < 16; what++) {
            due("count " + what, x.count(what), want[what]);
        }
        due("no image", x.back(), NONE);
        due("no act", x.undo(), NONE);
        due("its own money", Told.person(x, 0, 0), "20");
        due("its own age", Told.person(x, 0, 1), "20");
        due("nothing had", Told.person(x, 0, 4), "0");
        due("firsts of all", x.firsts(0, 0) + x.firsts(0, 1), 2);
        due("no spoils", x.joy(0, 1, 1), 0);
        due("the taste holds", x.joy(0, 1, 0), 20);
        due("no claim", x.could(1), 0);
        due("nothing found", x.must(NONE), 4);
        due("the plan", x.step(0, 1, 0), 3);
        due("had", x.have(0, 0), 10);
        due("it is not spoilt by what is gone", x.joy(0, 1, 1), 0);
        due("nothing came", x.person(0, 4), 1);
        due("no spoils in a row", x.clean(), 1);
        due("no ring", x.rings(), 0);
        Told.text(x, 0, "x;x;x;p;s;sa1b0;c;ca1b2");
        Told.text(x, 0, "x;x;p");
        due("no ring of what is gone", x.rings(), 0);
        due("no spoil of what is gone", x.clean(), 1);
        due("no coming of what is gone", x.have(0, 0), 10);
        due("none spoilt", x.joy(0, 1, 1), 0);
        Told.text(x, 0, "sa1b0;x;x;p;sp9");
        Told.text(x, 0, "sa1b0;xv3;xv4;p");
        due("one spoil, without a ring", x.rings(), 0);
        due("1 may not stand ahead", x.clean(), 1);
        due("0 spoils nothing, whatever was", x.kept(0, 2, 1), 3);
        due("the same text again", Told.text(x, 0, "x;xv20;p"), 2);
        due("a market with a fault leaves it", Told.text(x, 0, "x;x;x"), NONE);
        due("two things still", x.count(0), 2);
    }

    private static void thing() {
        sentence(6, "VALUE (0), RISE (1). NONE: no such ones.");
        within("thing", 0, 2, NONE, (x, n) -> x.thing(n, 0));
        within("what", 0, 1, NONE, (x, n) -> x.thing(0, n));
        due("no market", new FirstTimes().thing(0, 0), NONE);
    }

    private static void person() {
        sentence(7, "0 MONEY, 1 AGE, 2 what it LIKES (NONE), 3 JOY so far, 4 THINGS that it HAD (bits). NoSuchElementException: "
                + "no such ones.");
        within("person", 0, 1, Twins.THROWN, (x, n) -> x.person(n, 0));
        within("what", 0, 4, Twins.THROWN, (x, n) -> x.person(1, n));
        refused("neither", Twins.THROWN, x -> x.person(2, 5));
        due("no market", Told.person(new FirstTimes(), 0, 0), "throws");
        due("none liked", Told.market("x;x;p").person(0, 2), NONE);
    }

    private static void firsts() {
        sentence(8, "FIRSTS. NONE: no such ones.");
        within("person", 0, 1, NONE, (x, n) -> x.firsts(n, 0));
        within("thing", 0, 2, NONE, (x, n) -> x.firsts(0, n));
        due("no market", new FirstTimes().firsts(0, 0), NONE);
        FirstTimes x = new FirstTimes();
        live(x);
        due("laid aside", x.firsts(0, 0), 1);
        due("none", x.firsts(1, 1), 0);
    }

    private static void spoil() {
        sentence(9, "0 its first THING, 1 its second, 2 PARTS. NONE: no such ones.");
        within("spoil", 0, 1, NONE, (x, n) -> x.spoil(n, 2));
        within("what", 0, 2, NONE, (x, n) -> x.spoil(1, n));
        due("no spoil", Told.market("x;x;p").spoil(0, 0), NONE);
        due("the tenth", Told.market("x;x;p;s;s;s;s;s;s;s;s;s;sp9").spoil(9, 2), 9);
        due("no eleventh", Told.market("x;x;p;s;s;s;s;s;s;s;s;s;sp9").spoil(10, 2), NONE);
        due("no market", new FirstTimes().spoil(0, 0), NONE);
    }

    private static void coming() {
        sentence(10, "its first THING (0), its second (1). NONE: no such ones.");
        within("coming", 0, 0, NONE, (x, n) -> x.coming(n, 0));
        within("what", 0, 1, NONE, (x, n) -> x.coming(0, n));
        due("no coming", Told.market("x;x;p").coming(0, 0), NONE);
        due("the sixth", Told.market("x;x;p;c;c;c;c;c;ca1b0").coming(5, 0), 1);
        due("no seventh", Told.market("x;x;p;c;c;c;c;c;ca1b0").coming(6, 0), NONE);
        due("no market", new FirstTimes().coming(0, 0), NONE);
    }

    private static void taste() {
        sentence(11, "The TASTE that holds (NONE: none). False: no such one.");
        within("taste", NONE, 1, 0, (x, n) -> bit(x.taste(n)));
        Twins.within("taste of none", NEW, NONE, NONE, 0, (x, n) -> bit(x.taste(n)));
        FirstTimes x = new FirstTimes();
        live(x);
        due("the same one", x.taste(1), true);
        due("the first", x.taste(0) && x.count(7) == 0, true);
        due("none", x.taste(NONE) && x.count(7) == NONE, true);
        due("it is no act", x.count(14), 6);
    }

    private static void theft() {
        sentence(12, "THEFT (0 .. 99). False: out of bounds, it is so.");
        within("theft", 0, 99, 0, (x, n) -> bit(x.theft(n)));
        refused("as it is", 0, x -> bit(x.theft(7)));
        Twins.refused("0 at first", NEW, 0, x -> bit(x.theft(0)));
        FirstTimes x = new FirstTimes();
        due("without a market", x.theft(99), true);
        due("it is so", x.theft(99), false);
        due("0 again", x.theft(0), true);
        due("it is so", x.theft(0), false);
    }

    private static void joy() {
        sentence(13, "WHOLE (what 0), SPOILT (1), JOY (2). NONE: no such ones.");
        within("person", 0, 1, NONE, (x, n) -> x.joy(n, 0, 0));
        within("thing", 0, 2, NONE, (x, n) -> x.joy(0, n, 0));
        within("what", 0, 2, NONE, (x, n) -> x.joy(0, 0, n));
        for (int what = 0; what < 3; what++) {
            due("no market", new FirstTimes().joy(0, 0, what), NONE);
        }
    }

    private static void have() {
        sentence(14, "It HAS it: what it gave, with what came. NONE: no such ones, no FIRST.");
        within("person", 0, 0, NONE, (x, n) -> x.have(n, 0));
        Twins.within("person", ofTwo(), 0, 1, NONE, (x, n) -> x.have(n, 0));
        Twins.within("thing", ofTwo(), 0, 1, NONE, (x, n) -> x.have(1, n));
        refused("it is laid aside", NONE, x -> x.have(1, 2));
        refused("it was used", NONE, x -> x.have(0, 1));
        Twins.refused("it was sold", x -> {
            live(x);
            x.sell(0, 1, 0, 0);
        }, NONE, x -> x.have(0, 0));
        due("no market", new FirstTimes().have(0, 0), NONE);
    }

    private static Consumer<FirstTimes> ofTwo() {
        return x -> {
            Told.text(x, 0, "x;x;pm50;pm99;s;c");
            x.days(1);
            x.image();
            x.days(1);
        };
    }

    private static void sell() {
        sentence(15, "NONE: no such ones, alike, no FIRST, out of bounds, too little MONEY.");
        within("person", 0, 0, NONE, (x, n) -> x.sell(n, 1, 0, 0));
        within("other", 1, 1, NONE, (x, n) -> x.sell(0, n, 0, 0));
        Twins.within("thing", ofTwo(), 0, 1, NONE, (x, n) -> x.sell(0, 1, n, 9));
        Twins.within("price", ofTwo(), 0, 99, NONE, (x, n) -> x.sell(0, 1, 0, n));
        Twins.within("money", ofTwo(), 0, 50, NONE, (x, n) -> x.sell(1, 0, 0, n));
        Twins.refused("100 of one with more", x -> {
            ofTwo().accept(x);
            x.sell(0, 1, 1, 99);
        }, NONE, x -> x.sell(1, 0, 0, 100));
        Twins.refused("alike", ofTwo(), NONE, x -> x.sell(0, 0, 0, 0));
        Twins.refused("alike", ofTwo(), NONE, x -> x.sell(1, 1, 1, 1));
        refused("no first, laid aside", NONE, x -> x.sell(1, 0, 2, 0));
        refused("no first, used", NONE, x -> x.sell(0, 1, 1, 0));
        due("no market", new FirstTimes().sell(0, 1, 0, 0), NONE);
        FirstTimes x = new FirstTimes();
        ofTwo().accept(x);
        due("all money", x.sell(0, 1, 0, 99), 149);
        due("one act", x.count(14), 3);
    }

    private static void steal() {
        sentence(16, "STEAL (of the other one): FIRSTS of it then. NONE: no such ones, alike, the other one holds none.");
        Twins.within("person", ofTwo(), 0, 0, NONE, (x, n) -> x.steal(n, 1, 0));
        Twins.within("other", ofTwo(), 1, 1, NONE, (x, n) -> x.steal(0, n, 0));
        Twins.within("thing", ofTwo(), 0, 1, NONE, (x, n) -> x.steal(0, 1, n));
        Twins.refused("alike", ofTwo(), NONE, x -> x.steal(0, 0, 0));
        Twins.refused("alike", ofTwo(), NONE, x -> x.steal(1, 1, 1));
        refused("the other one has laid it aside", NONE, x -> x.steal(0, 1, 2));
        refused("the other one has used it", NONE, x -> x.steal(1, 0, 1));
        due("no market", new FirstTimes().steal(0, 1, 0), NONE);
        FirstTimes x = new FirstTimes();
        ofTwo().accept(x);
        due("two", x.steal(0, 1, 0), 2);
        due("none", x.firsts(1, 0), 0);
    }

    private static void pledge() {
        sentence(17, "NONE: as for SELL, days out of bounds, there are eight.");
        Twins.within("person", ofTwo(), 0, 0, NONE, (x, n) -> x.pledge(n, 1, 0, 0, 1));
        Twins.within("other", ofTwo(), 1, 1, NONE, (x, n) -> x.pledge(0, n, 0, 0, 1));
        Twins.within("thing", ofTwo(), 0, 1, NONE, (x, n) -> x.pledge(0, 1, n, 0, 1));
        Twins.within("price", ofTwo(), 0, 99, NONE, (x, n) -> x.pledge(0, 1, 0, n, 1));
        Twins.within("money", ofTwo(), 0, 50, NONE, (x, n) -> x.pledge(1, 0, 0, n, 1));
        Twins.within("days", ofTwo(), 1, 30, NONE, (x, n) -> x.pledge(0, 1, 0, 0, n));
        Twins.refused("alike", ofTwo(), NONE, x -> x.pledge(0, 0, 0, 0, 1));
        refused("no first, laid aside", NONE, x -> x.pledge(1, 0, 2, 0, 1));
        refused("no first, used", NONE, x -> x.pledge(0, 1, 1, 0, 1));
        Consumer<FirstTimes> pledging = x -> {
            Told.text(x, 0, "x;x;x;x;x;x;x;x;p;p");
            for (int t = 0; t < 7; t++) {
                x.pledge(0, 1, t, 0, 30);
            }
        };
        FirstTimes x = new FirstTimes();
        pledging.accept(x);
        due("the eighth", x.pledge(0, 1, 7, 0, 30), 8);
        Twins.refused("a ninth", y -> {
            pledging.accept(y);
            y.pledge(0, 1, 7, 0, 30);
        }, NONE, y -> y.pledge(1, 0, 0, 0, 1));
        due("no market", new FirstTimes().pledge(0, 1, 0, 0, 1), NONE);
    }

    private static void pledged() {
        sentence(18, "Of a PLEDGE: 0 whose, 1 who paid, 2 the THING, 3 PRICE, 4 the DAY it is due. NONE: no such ones.");
        within("pledge", 0, 2, NONE, (x, n) -> x.pledged(n, 0));
        within("what", 0, 4, NONE, (x, n) -> x.pledged(2, n));
        FirstTimes x = new FirstTimes();
        live(x);
        int[] want = {1, 0, 1, 1, 10};
        for (int what = 0; what < 5; what++) {
            due("what " + what, x.pledged(2, what), want[what]);
        }
        x.redeem(2);
        due("redeemed", x.pledged(2, 0), NONE);
        due("no market", new FirstTimes().pledged(0, 0), NONE);
    }

    private static void redeem() {
        sentence(19, "REDEEMED (those behind it one lower in number): MONEY of its owner then. NONE: no such one, too little "
                + "MONEY.");
        within("pledge", 0, 2, NONE, FirstTimes::redeem);
        FirstTimes x = new FirstTimes();
        live(x);
        int thing = x.pledged(2, 2);
        x.redeem(1);
        due("one lower", x.pledged(1, 2), thing);
        due("two are left", x.count(10), 2);
        due("the first is where it was", x.pledged(0, 2), 0);
        for (int money = 5; money <= 7; money++) {
            String text = "x;x;pm0;pm" + money;
            Consumer<FirstTimes> life = y -> {
                Told.text(y, 0, text);
                y.pledge(0, 1, 0, 5, 1);
                y.sell(0, 1, 1, y.person(1, 0));
            };
            if (money == 5) {
                Twins.refused("5 for 5 and one", life, NONE, y -> y.redeem(0));
            } else {
                FirstTimes y = new FirstTimes();
                life.accept(y);
                due(money + " for 5 and one", y.redeem(0), money - 6);
            }
        }
        due("no market", new FirstTimes().redeem(0), NONE);
    }

    private static Consumer<FirstTimes> onDay(int day) {
        return x -> {
            live(x);
            x.taste(NONE);
            for (int left = day - x.count(8); left > 0; left -= 30) {
                x.days(Math.min(left, 30));
            }
        };
    }

    private static void days() {
        sentence(20, "DAYS (1 .. 30; each one ACT): the DAY. NONE: no MARKET, out of bounds, above 999.");
        within("days", 1, 30, NONE, FirstTimes::days);
        Twins.refused("no market", NEW, NONE, x -> x.days(1));
        Twins.within("to day 999", onDay(990), 1, 9, NONE, FirstTimes::days);
        Twins.within("to day 999", onDay(969), 1, 30, NONE, FirstTimes::days);
        Twins.refused("on day 999", onDay(999), NONE, x -> x.days(1));
        Twins.refused("from day 970", onDay(970), NONE, x -> x.days(30));
        FirstTimes x = new FirstTimes();
        onDay(998).accept(x);
        due("999", x.days(1), 999);
        FirstTimes y = Told.market("x;x;p");
        due("30", y.days(30), 30);
        due("each one act", y.count(14), 30);
        due("one day back", y.undo() == 29 && y.count(8) == 29, true);
    }

    private static void undo() {
        sentence(21, "The latest ACT is UNDONE: how many still can be. NONE: none.");
        Twins.refused("no market", NEW, NONE, FirstTimes::undo);
        Twins.refused("no act", x -> Told.text(x, 0, "x;x;p"), NONE, FirstTimes::undo);
        FirstTimes x = Told.market("x;x;p;p");
        x.have(0, 0);
        due("one", x.undo(), 0);
        due("none", x.undo(), NONE);
        x.have(0, 0);
        x.image();
        x.back();
        due("none behind back", x.undo(), NONE);
        due("it is had", x.firsts(0, 0), 0);
        x.days(1);
        Told.text(x, 0, "x;x;p;p");
        due("none of another market", x.undo(), NONE);
    }

    private static void log() {
        sentence(22, "LOG, the latest (i 0), the one ahead of it (1) ..: 0 by whom, 1 what, 2 JOY, 3 the DAY. NONE: no such ones.");
        within("i", 0, 1, NONE, (x, n) -> x.log(n, 0));
        within("what", 0, 3, NONE, (x, n) -> x.log(1, n));
        due("no log", Told.market("x;x;p").log(0, 0), NONE);
        due("no market", new FirstTimes().log(0, 0), NONE);
        // The largest and the smallest of each number of an entry.
        FirstTimes x = Told.market("x;x;x;x;x;x;x;xv99r9;p;p;p;p;p;pl7");
        x.have(0, 0);
        for (int i = 0; i < 33; i++) {
            x.days(30);
        }
        x.days(9);
        due("999", x.have(5, 7), 999);
        int[][] want = {{5, 7, 999, 999}, {0, 0, 10, 0}};
        for (int i = 0; i < 2; i++) {
            for (int what = 0; what < 4; what++) {
                due("entry " + i + ", " + what, x.log(i, what), want[i][what]);
            }
        }
    }

    private static void step() {
        sentence(23, "A STEP of a PLAN: 0 its sort (0 h, 1 s, 2 t, 3 d), 1 the PERSON, 2 the other, 3 the THING, 4 the PRICE (NONE: "
                + "it has none). NONE: no such ones.");
        within("plan", 0, 0, NONE, (x, n) -> x.step(n, 0, 0));
        within("i", 0, 3, NONE, (x, n) -> x.step(0, n, 0));
        Twins.within("what of s", x -> Told.text(x, 2, "s123,0"), 0, 4, NONE, (x, n) -> x.step(0, 0, n));
        Twins.within("what of s", x -> Told.text(x, 2, "s123,0;d"), 0, 4, NONE, (x, n) -> x.step(0, 0, n));
        Twins.within("i of twelve", x -> Told.text(x, 2, "d;d;d;d;d;d;d;d;d;d;d;s012,3"), 0, 11, NONE,
                (x, n) -> x.step(0, n, 0));
        Twins.within("what of twelve", x -> Told.text(x, 2, "d;d;d;d;d;d;d;d;d;d;d;s012,3"), 0, 4, NONE,
                (x, n) -> x.step(0, 11, n));
        Twins.within("plan of four", x -> {
            for (int i = 0; i < 4; i++) {
                Told.text(x, 2, "d");
            }
        }, 0, 3, NONE, (x, n) -> x.step(n, 0, 0));
        FirstTimes x = new FirstTimes();
        Told.text(x, 2, "h09;s908,99;t890;d");
        int[][] want = {{0, 0, NONE, 9, NONE}, {1, 9, 0, 8, 99}, {2, 8, 9, 0, NONE}, {3, NONE, NONE, NONE, NONE}};
        for (int i = 0; i < 4; i++) {
            for (int what = 0; what < 5; what++) {
                due("step " + i + ", " + what, x.step(0, i, what), want[i][what]);
            }
        }
        due("no plan", new FirstTimes().step(0, 0, 0), NONE);
    }

    private static void run() {
        sentence(24, "RUN: behind how many (0; NONE: all can be), JOY (1). HIDDEN: no such ones, no MARKET.");
        within("plan", 0, 0, HIDDEN, (x, n) -> x.run(n, 0));
        within("what", 0, 1, HIDDEN, (x, n) -> x.run(0, n));
        Twins.refused("no market", x -> Told.text(x, 2, "d"), HIDDEN, x -> x.run(0, 0));
        Twins.refused("no plan", x -> Told.text(x, 0, "x;x;p"), HIDDEN, x -> x.run(0, 0));
        FirstTimes x = new FirstTimes();
        live(x);
        due("h00, d, and no h00 again", x.run(0, 0), 2);
        Told.text(x, 2, "d");
        due("all", x.run(1, 0), NONE);
        due("none", x.run(1, 1), 0);
    }

    private static void perform() {
        sentence(25, "DO: how many STEPS were done. NONE: no such PLAN, no MARKET.");
        within("plan", 0, 0, NONE, FirstTimes::perform);
        Twins.refused("no market", x -> Told.text(x, 2, "d"), NONE, x -> x.perform(0));
        Twins.refused("no plan", x -> Told.text(x, 0, "x;x;p"), NONE, x -> x.perform(0));
        FirstTimes x = new FirstTimes();
        live(x);
        due("two", x.perform(0), 2);
        due("acts", x.count(14), 8);
        due("h00 can't be", x.perform(0), 0);
        due("no act", x.count(14), 8);
    }

    private static void order() {
        sentence(26, "ORDER: digits (0; NONE: nothing to have), JOY (1). HIDDEN: no such ones.");
        within("person", 0, 1, HIDDEN, (x, n) -> x.order(n, 7, 0));
        within("things", 0, 7, HIDDEN, (x, n) -> x.order(0, n, 0));
        within("what", 0, 1, HIDDEN, (x, n) -> x.order(0, 7, n));
        Twins.within("things of eight", x -> Told.text(x, 0, "x;x;x;x;x;x;x;x;p"), 0, 255, HIDDEN, (x, n) -> x.order(0, n, 0));
        due("no market", new FirstTimes().order(0, 0, 0), HIDDEN);
        FirstTimes x = new FirstTimes();
        live(x);
        due("nothing to have", x.order(0, 0, 0), NONE);
        due("nothing to have", x.order(0, 6, 0), NONE);
        due("no joy", x.order(0, 6, 1), 0);
        due("0 alone", x.order(0, 7, 0), 0);
    }

    private static void cleanAndRings() {
        sentence(27, "CLEAN: digits (of eight THINGS eight). NONE: there is no such row, no MARKET.");
        Twins.refused("no market", NEW, NONE, FirstTimes::clean);
        Twins.refused("no such row", x -> Told.text(x, 0, "x;x;p;s;sa1b0"), NONE, FirstTimes::clean);
        due("of two", Told.market("x;x;p;s").clean(), 10);
        due("of eight", Told.market("x;x;x;x;x;x;x;x;p;sa0b1").clean(), 10234567);
        sentence(28, "RINGS. NONE: no MARKET.");
        Twins.refused("no market", NEW, NONE, FirstTimes::rings);
        due("none of two", Told.market("x;x;p").rings(), 0);
    }

    private static void pairing() {
        sentence(29, "MATCH: digits (0), how much (1). NONE: no MARKET, no such what.");
        within("what", 0, 1, NONE, FirstTimes::pairing);
        Twins.refused("no market", NEW, NONE, x -> x.pairing(0));
        Twins.refused("no market", NEW, NONE, x -> x.pairing(1));
        due("of one", Told.market("x;x;p").pairing(0), 0);
    }

    private static void sale() {
        sentence(30, "SALE: who (0), what it pays (1). NONE: no such ones.");
        within("thing", 0, 2, NONE, (x, n) -> x.sale(n, 0));
        within("what", 0, 1, NONE, (x, n) -> x.sale(0, n));
        due("no market", new FirstTimes().sale(0, 0), NONE);
    }

    private static void awaits() {
        sentence(31, "WAIT: DAYS (0), how much (1). NONE: no such ones, no FIRST, out of bounds.");
        within("person", 0, 0, NONE, (x, n) -> x.awaits(n, 0, 0, 0, 0));
        Twins.within("person", ofTwo(), 0, 1, NONE, (x, n) -> x.awaits(n, 0, 0, 0, 0));
        Twins.within("thing", ofTwo(), 0, 1, NONE, (x, n) -> x.awaits(0, n, 0, 0, 0));
        within("n", 0, 30, NONE, (x, n) -> x.awaits(0, 0, n, 50, 0));
        within("chance", 0, 100, NONE, (x, n) -> x.awaits(0, 0, 30, n, 0));
        within("what", 0, 1, NONE, (x, n) -> x.awaits(0, 0, 30, 50, n));
        refused("no first, used", NONE, x -> x.awaits(0, 1, 0, 0, 0));
        refused("no first, laid aside", NONE, x -> x.awaits(1, 2, 0, 0, 0));
        due("no market", new FirstTimes().awaits(0, 0, 0, 0, 0), NONE);
    }

    private static void repeats() {
        sentence(32, "REPEATS. NONE: no such PERSON, out of bounds.");
        within("person", 0, 1, NONE, (x, n) -> x.repeats(n, 0));
        within("n", 0, 60, NONE, (x, n) -> x.repeats(0, n));
        due("no market", new FirstTimes().repeats(0, 0), NONE);
    }

    private static void kept() {
        sentence(33, "KEPT. NONE: no such ones (HABITS 0 .. 3), out of bounds.");
        within("person", 0, 1, NONE, (x, n) -> x.kept(n, 0, 1));
        within("habit", 0, 3, NONE, (x, n) -> x.kept(0, n, 1));
        for (int habit = 0; habit < 4; habit++) {
            int h = habit;
            within("n", 1, 30, NONE, (x, n) -> x.kept(0, h, n));
        }
        due("no market", new FirstTimes().kept(0, 0, 1), NONE);
    }

    private static void habit() {
        sentence(34, "The best HABIT (0), JOY so (1). NONE: no such PERSON, out of bounds, no such what.");
        within("person", 0, 1, NONE, (x, n) -> x.habit(n, 1, 0));
        within("n", 1, 30, NONE, (x, n) -> x.habit(0, n, 0));
        within("what", 0, 1, NONE, (x, n) -> x.habit(0, 1, n));
        due("no market", new FirstTimes().habit(0, 1, 0), NONE);
    }

    private static void found() {
        sentence(35, "FOUND: how many there are. NONE: no such THING, out of bounds, there are 12.");
        within("thing", 0, 2, NONE, (x, n) -> x.found(n, 0));
        within("spoilt", 0, 10, NONE, (x, n) -> x.found(0, n));
        Consumer<FirstTimes> eleven = x -> {
            live(x);
            for (int i = 2; i <= 11; i++) {
                x.found(0, 0);
            }
        };
        FirstTimes x = new FirstTimes();
        eleven.accept(x);
        due("the twelfth", x.found(1, 5), 12);
        due("it counts", x.must(NONE), 2);
        Twins.refused("a thirteenth", y -> {
            eleven.accept(y);
            y.found(0, 0);
        }, NONE, y -> y.found(1, 5));
        due("no market", new FirstTimes().found(0, 0), NONE);
    }

    private static void must() {
        sentence(36, "MUST: how many (i NONE), the i-th. NONE: no such one, no MARKET.");
        within("i", NONE, 3, NONE, FirstTimes::must);
        Twins.within("of eight", x -> Told.text(x, 0, "x;x;x;x;x;x;x;x;p"), NONE, 255, NONE, FirstTimes::must);
        Twins.refused("no market", NEW, NONE, x -> x.must(NONE));
        Twins.refused("no market", NEW, NONE, x -> x.must(0));
        FirstTimes x = Told.market("x;x;p");
        x.found(0, 1);
        due("no set at all", x.must(NONE), 0);
        due("no first one", x.must(0), NONE);
    }

    private static void sure() {
        sentence(37, "SURE, as bits. NONE: no set fits, no MARKET.");
        Twins.refused("no market", NEW, NONE, FirstTimes::sure);
        Twins.refused("no set fits", x -> {
            live(x);
            x.found(2, 8);
        }, NONE, FirstTimes::sure);
        due("nothing of all sets", Told.market("x;x;p").sure(), 0);
        FirstTimes x = Told.market("x;x;x;x;x;x;x;x;p;sa6b7");
        x.found(7, 5);
        due("bit 6", x.sure(), 64);
        FirstTimes y = Told.market("x;x;x;x;x;x;x;x;p;sa7b6");
        y.found(6, 5);
        due("bit 7", y.sure(), 128);
    }

    private static void claim() {
        sentence(38, "CLAIMS: how many there are. NONE: no such ones, out of bounds, there are 12.");
        within("person", 0, 1, NONE, (x, n) -> x.claim(n, 0, 0, 0));
        within("thing", 0, 2, NONE, (x, n) -> x.claim(0, n, 0, 0));
        within("day", 0, 99, NONE, (x, n) -> x.claim(0, 0, n, 0));
        within("e", 0, 9, NONE, (x, n) -> x.claim(0, 0, 0, n));
        Consumer<FirstTimes> eleven = x -> {
            live(x);
            for (int i = 3; i <= 11; i++) {
                x.claim(0, 0, 50, 0);
            }
        };
        FirstTimes x = new FirstTimes();
        eleven.accept(x);
        due("the twelfth", x.claim(1, 0, 50, 0), 12);
        due("it counts", x.could(0), 3);
        Twins.refused("a thirteenth", y -> {
            eleven.accept(y);
            y.claim(0, 0, 50, 0);
        }, NONE, y -> y.claim(1, 0, 50, 0));
        due("no market", new FirstTimes().claim(0, 0, 0, 0), NONE);
    }

    private static void couldAndAlone() {
        sentence(39, "COULD, as bits (0: no CLAIM). NONE: no such THING.");
        within("thing", 0, 2, NONE, FirstTimes::could);
        due("no claim", Told.market("x;x;p").could(1), 0);
        due("no market", new FirstTimes().could(0), NONE);
        FirstTimes x = Told.market("x;x;p;p;p;p;p;p");
        x.claim(5, 1, 99, 0);
        due("bit 5", x.could(1), 32);
        sentence(40, "ALONE. NONE: none, no such THING.");
        due("person 5", x.alone(1), 5);
        Twins.within("thing", y -> {
            Told.text(y, 0, "x;x;p");
            y.claim(0, 0, 1, 0);
            y.claim(0, 1, 1, 0);
        }, 0, 1, NONE, FirstTimes::alone);
        refused("none", NONE, y -> y.alone(0));
        due("no market", new FirstTimes().alone(0), NONE);
    }

    private static void years() {
        sentence(41, "YEARS: the DAY. NONE: no MARKET, out of bounds, above 999.");
        within("days", 1, 30, NONE, (x, n) -> x.years(n, 5L));
        Twins.refused("no market", NEW, NONE, x -> x.years(1, 1L));
        Twins.within("to day 999", onDay(990), 1, 9, NONE, (x, n) -> x.years(n, -1L));
        Twins.refused("on day 999", onDay(999), NONE, x -> x.years(1, 0L));
        Twins.refused("from day 970", onDay(970), NONE, x -> x.years(30, Long.MAX_VALUE));
        FirstTimes x = new FirstTimes();
        onDay(969).accept(x);
        due("999", x.years(30, Long.MIN_VALUE), 999);
    }

    private static void richestAndLast() {
        sentence(42, "RICHEST. NONE: no MARKET.");
        Twins.refused("no market", NEW, NONE, FirstTimes::richest);
        due("of one", Told.market("x;x;pm0").richest(), 0);
        sentence(43, "LAST. NONE: no such THING.");
        within("thing", 0, 2, NONE, FirstTimes::last);
        due("no market", new FirstTimes().last(0), NONE);
    }

    private static void imageAndBack() {
        sentence(44, "An IMAGE (instead of the one ahead): the DAY. NONE: no MARKET.");
        Twins.refused("no market", NEW, NONE, FirstTimes::image);
        FirstTimes x = new FirstTimes();
        onDay(998).accept(x);
        due("day 998", x.image(), 998);
        x.days(1);
        due("day 999", x.image(), 999);
        due("the one ahead is gone", x.back(), 999);
        sentence(45, "BACK: the DAY. NONE: no IMAGE of this MARKET.");
        Twins.refused("no market", NEW, NONE, FirstTimes::back);
        Twins.refused("no image", y -> {
            Told.text(y, 0, "x;x;p");
            y.days(3);
        }, NONE, FirstTimes::back);
        Twins.refused("an image of another market", y -> {
            live(y);
            y.image();
            Told.text(y, 0, "x;x;p");
            y.days(3);
        }, NONE, FirstTimes::back);
        FirstTimes y = new FirstTimes();
        live(y);
        Told.text(y, 0, "x;x;x");
        due("still of this market", y.back(), 0);
        due("as often as asked", y.back(), 0);
        y.days(2);
        due("again", y.back(), 0);
        due("on day 0", y.count(8), 0);
    }

    private static void count() {
        sentence(46, "HIDDEN for others.");
        within("what", 0, 15, HIDDEN, FirstTimes::count);
        FirstTimes x = new FirstTimes();
        live(x);
        int[] want = {3, 2, 2, 1, 2, 1, 3, 1, 1, 7, 3, 2, 1, 2, 6, 20};
        for (int what = 0; what < 16; what++) {
            due("count " + what, x.count(what), want[what]);
        }
        sentence(46, "7 the TASTE that holds (NONE)");
        x.taste(NONE);
        due("none", x.count(7), NONE);
    }
}
