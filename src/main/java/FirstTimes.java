import java.util.Arrays;
import java.util.NoSuchElementException;

/** A market of first times, as shared/DOC.md promises it. */
public final class FirstTimes {
    public static final int NONE = -1;
    public static final int HIDDEN = -1000000;

    private static final int NO_SUCH_SORT = -2;
    private static final int TEXTS = 4;
    private static final int LAST_DAY = 999;
    private static final int MOST_PRICE = 99;
    private static final int MOST_DAYS = 30;
    private static final int MOST_REPEAT_DAYS = 60;
    private static final int HABITS = 4;
    private static final int HABIT_OF_NONE = 3;
    private static final long BILLION = 1000000000L;

    private final Tape tape;
    private final Market market;
    private final Market draft;
    private final Tastes tastes;
    private final Plans plans;
    private final State now;
    private final State apart;
    private final Past past;
    private final int[] image;
    private final Eye eye;
    private final Having having;
    private final Sets sets;
    private final Evidence evidence;
    private boolean imaged;
    private int thefts;
    private long drawn;

    public FirstTimes() {
        tape = new Tape();
        market = new Market();
        draft = new Market();
        tastes = new Tastes(tape);
        plans = new Plans(tape);
        now = new State(market);
        apart = new State(market);
        past = new Past();
        image = new int[State.SIZE];
        eye = new Eye(market, tastes);
        having = new Having(market, eye);
        sets = new Sets(market, having);
        evidence = new Evidence();
    }

    public int feed(int a, int b, int c, int d, int e) {
        int more = Tape.bytesIn(a) + Tape.bytesIn(b) + Tape.bytesIn(c) + Tape.bytesIn(d) + Tape.bytesIn(e);
        if (tape.length + more > Tape.MOST) {
            return NONE;
        }
        tape.put(a);
        tape.put(b);
        tape.put(c);
        tape.put(d);
        tape.put(e);
        return tape.length;
    }

    public boolean end(int n) {
        if (n < 0 || n > tape.length) {
            return false;
        }
        tape.length = n;
        return true;
    }

    public int fault(int sort) {
        if (sort < 0 || sort > 2) {
            return NO_SUCH_SORT;
        }
        return isFaultless(sort) ? NONE : tape.wrong;
    }

    public int text(int sort) {
        if (sort < 0 || sort > 2 || !isFaultless(sort)) {
            return NONE;
        }
        int number = NONE;
        if (sort == 0) {
            number = openMarket();
        } else if (sort == 1) {
            number = tastes.keepSpare();
        } else {
            number = plans.keepSpare();
        }
        if (number != NONE) {
            tape.length = 0;
        }
        return number;
    }

    public int thing(int thing, int what) {
        return market.told(Market.THING, thing, what);
    }

    public int person(int person, int what) throws NoSuchElementException {
        if (!market.hasPerson(person) || what < 0 || what > 4) {
            throw new NoSuchElementException("no such person, or nothing such of it");
        }
        if (what == 0) {
            return now.moneyOf(person);
        }
        if (what == 1) {
            return now.ageOf(person);
        }
        if (what == 2) {
            int liked = market.told(Market.PERSON, person, 2);
            return liked < Market.MOST_THINGS ? liked : NONE;
        }
        return what == 3 ? now.joyBy(person) : now.hadBy(person);
    }

    public int firsts(int person, int thing) {
        return market.hasBoth(person, thing) ? now.heldOf(person, thing) : NONE;
    }

    public int spoil(int spoil, int what) {
        return market.told(Market.SPOIL, spoil, what);
    }

    public int coming(int coming, int what) {
        return market.told(Market.COMING, coming, what);
    }

    public boolean taste(int taste) {
        if (taste < NONE || taste >= tastes.count) {
            return false;
        }
        tastes.holding = taste;
        return true;
    }

    public boolean theft(int v) {
        if (v < 0 || v > 99 || v == thefts) {
            return false;
        }
        thefts = v;
        return true;
    }

    public int joy(int person, int thing, int what) {
        if (!market.hasBoth(person, thing) || what < 0 || what > 2) {
            return NONE;
        }
        int had = now.hadBy(person);
        if (what == 1) {
            return market.spoilt(thing, had);
        }
        eye.look(now, person, 0, 0);
        return what == 0 ? eye.whole(thing, had) : eye.delight(thing, had);
    }

    public int have(int person, int thing) {
        if (!now.mayHave(person, thing)) {
            return NONE;
        }
        past.keep(now.cells);
        return doHave(now, person, thing);
    }

    public int sell(int person, int other, int thing, int price) {
        if (!now.maySell(person, other, thing, price)) {
            return NONE;
        }
        past.keep(now.cells);
        now.doSell(person, other, thing, price);
        return now.moneyOf(person);
    }

    public int steal(int person, int other, int thing) {
        if (!now.maySteal(person, other, thing)) {
            return NONE;
        }
        past.keep(now.cells);
        now.doSteal(person, other, thing);
        return now.heldOf(person, thing);
    }

    public int pledge(int person, int other, int thing, int price, int days) {
        if (!now.maySell(person, other, thing, price) || days < 1 || days > MOST_DAYS || now.pledgesFull()) {
            return NONE;
        }
        past.keep(now.cells);
        now.doPledge(person, other, thing, price, days);
        return now.pledgeCount();
    }

    public int pledged(int pledge, int what) {
        if (!now.hasPledge(pledge) || what < 0 || what > 4) {
            return NONE;
        }
        return now.ofPledge(pledge, what);
    }

    public int redeem(int pledge) {
        if (!now.mayRedeem(pledge)) {
            return NONE;
        }
        past.keep(now.cells);
        int owner = now.ofPledge(pledge, State.OWNER);
        now.doRedeem(pledge);
        return now.moneyOf(owner);
    }

    public int days(int n) {
        if (!mayPass(n)) {
            return NONE;
        }
        for (int i = 0; i < n; i++) {
            past.keep(now.cells);
            now.endDay();
        }
        return now.today();
    }

    public int undo() {
        return past.bring(now.cells) ? past.size : NONE;
    }

    public int log(int i, int what) {
        if (i < 0 || i >= now.logLength() || what < 0 || what > 3) {
            return NONE;
        }
        return now.ofLog(i, what);
    }

    public int step(int plan, int i, int what) {
        return plans.told(plan, i, what);
    }

    public int run(int plan, int what) {
        if (!plans.has(plan) || !market.stands() || what < 0 || what > 1) {
            return HIDDEN;
        }
        apart.takeOver(now.cells);
        int before = apart.joyOfAll();
        int size = plans.sizeOf(plan);
        int done = 0;
        for (int i = 0; i < size; i++) {
            if (!mayStep(apart, plan, i)) {
                break;
            }
            doStep(apart, plan, i);
            done++;
        }
        if (what == 1) {
            return apart.joyOfAll() - before;
        }
        return done == size ? NONE : done;
    }

    public int perform(int plan) {
        if (!plans.has(plan) || !market.stands()) {
            return NONE;
        }
        int size = plans.sizeOf(plan);
        int done = 0;
        for (int i = 0; i < size; i++) {
            if (!mayStep(now, plan, i)) {
                break;
            }
            past.keep(now.cells);
            doStep(now, plan, i);
            done++;
        }
        return done;
    }

    public int order(int person, int things, int what) {
        if (!market.hasPerson(person) || things < 0 || things > market.allThings() || what < 0 || what > 1) {
            return HIDDEN;
        }
        int had = now.hadBy(person);
        eye.look(now, person, 0, market.things());
        sets.findOrders(had, now.heldBy(person), things);
        if (what == 1) {
            return sets.best[had];
        }
        return sets.lengths[had] == 0 ? NONE : sets.digits[had];
    }

    public int clean() {
        return market.stands() ? market.cleanRow() : NONE;
    }

    public int rings() {
        return market.stands() ? sets.fewestLeftOut() : NONE;
    }

    public int pairing(int what) {
        if (!market.stands() || what < 0 || what > 1) {
            return NONE;
        }
        int held = now.heldByAny();
        int place = 1;
        sets.beginMatch();
        for (int p = market.persons() - 1; p >= 0; p--) {
            eye.look(now, p, 0, 0);
            for (int t = 0; t < market.things(); t++) {
                sets.offers[t] = ((held >> t) & 1) == 1 ? eye.delight(t, now.hadBy(p)) : NONE;
            }
            sets.matchPerson(place);
            place *= 10;
        }
        return what == 0 ? sets.digits[0] : sets.best[0];
    }

    public int sale(int thing, int what) {
        if (!market.hasThing(thing) || what < 0 || what > 1) {
            return NONE;
        }
        int who = NONE;
        int most = NONE;
        int next = 0;
        for (int p = 0; p < market.persons(); p++) {
            eye.look(now, p, 0, 0);
            int joy = eye.delight(thing, now.hadBy(p));
            if (joy > most) {
                next = Math.max(most, 0);
                most = joy;
                who = p;
            } else {
                next = Math.max(next, joy);
            }
        }
        return what == 0 ? who : next;
    }

    public int awaits(int person, int thing, int n, int chance, int what) {
        if (!now.mayHave(person, thing) || n < 0 || n > MOST_DAYS || chance < 0 || chance > 100
                || what < 0 || what > 1) {
            return NONE;
        }
        long parts = BILLION;
        int best = NONE;
        int when = 0;
        for (int i = 0; i <= n; i++) {
            eye.look(now, person, i, 0);
            int worth = (int) (parts * eye.delight(thing, now.hadBy(person)) / BILLION);
            if (worth > best) {
                best = worth;
                when = i;
            }
            parts -= parts * chance / 100;
        }
        return what == 0 ? when : best;
    }

    public int repeats(int person, int n) {
        if (!market.hasPerson(person) || n < 0 || n > MOST_REPEAT_DAYS) {
            return NONE;
        }
        int held = now.heldBy(person) | now.dueTo(person, now.today() + n);
        return market.things() - Integer.bitCount(held);
    }

    public int kept(int person, int habit, int n) {
        if (!market.hasPerson(person) || habit < 0 || habit >= HABITS || n < 1 || n > MOST_DAYS) {
            return NONE;
        }
        return joyByHabit(person, habit, n);
    }

    public int habit(int person, int n, int what) {
        if (!market.hasPerson(person) || n < 1 || n > MOST_DAYS || what < 0 || what > 1) {
            return NONE;
        }
        int best = 0;
        int most = NONE;
        for (int h = 0; h < HABITS; h++) {
            int joy = joyByHabit(person, h, n);
            if (joy > most) {
                most = joy;
                best = h;
            }
        }
        return what == 0 ? best : most;
    }

    public int found(int thing, int spoilt) {
        if (!market.hasThing(thing) || spoilt < 0 || spoilt > Market.ALL_PARTS) {
            return NONE;
        }
        return evidence.addFound(thing, spoilt);
    }

    public int must(int i) {
        if (!market.stands() || i < NONE) {
            return NONE;
        }
        int fitting = 0;
        for (int set = 0; set <= market.allThings(); set++) {
            if (evidence.fits(market, set)) {
                if (fitting == i) {
                    return set;
                }
                fitting++;
            }
        }
        return i == NONE ? fitting : NONE;
    }

    public int sure() {
        int common = NONE;
        if (!market.stands()) {
            return NONE;
        }
        for (int set = 0; set <= market.allThings(); set++) {
            if (evidence.fits(market, set)) {
                common = common == NONE ? set : common & set;
            }
        }
        return common;
    }

    public int claim(int person, int thing, int day, int e) {
        if (!market.hasBoth(person, thing) || day < 0 || day > 99 || e < 0 || e > 9) {
            return NONE;
        }
        return evidence.addClaim(person, thing, day, e);
    }

    public int could(int thing) {
        if (!market.hasThing(thing)) {
            return NONE;
        }
        evidence.weigh(thing);
        int bits = 0;
        for (int p = 0; p < market.persons(); p++) {
            if (evidence.couldBeFirst(p)) {
                bits |= 1 << p;
            }
        }
        return bits;
    }

    public int alone(int thing) {
        if (!market.hasThing(thing)) {
            return NONE;
        }
        evidence.weigh(thing);
        for (int p = 0; p < market.persons(); p++) {
            if (evidence.surelyAhead(p)) {
                return p;
            }
        }
        return NONE;
    }

    public int years(int n, long seed) {
        if (!mayPass(n)) {
            return NONE;
        }
        drawn = seed;
        for (int i = 0; i < n; i++) {
            past.keep(now.cells);
            for (int p = 0; p < market.persons(); p++) {
                liveByDraws(p);
            }
            now.endDay();
        }
        return now.today();
    }

    public int richest() {
        int who = NONE;
        for (int p = 0; p < market.persons(); p++) {
            if (who == NONE || now.moneyOf(p) > now.moneyOf(who)) {
                who = p;
            }
        }
        return who;
    }

    public int last(int thing) {
        return market.hasThing(thing) ? now.leftOf(thing) : NONE;
    }

    public int image() {
        if (!market.stands()) {
            return NONE;
        }
        System.arraycopy(now.cells, 0, image, 0, State.SIZE);
        imaged = true;
        return now.today();
    }

    public int back() {
        if (!imaged) {
            return NONE;
        }
        now.takeOver(image);
        past.forget();
        return now.today();
    }

    public int count(int what) {
        switch (what) {
            case 0: return market.things();
            case 1: return market.persons();
            case 2: return market.counts[Market.SPOIL];
            case 3: return market.counts[Market.COMING];
            case 4: return tastes.count;
            case 5: return plans.count;
            case 6: return tape.length;
            case 7: return tastes.holding;
            case 8: return now.today();
            case 9: return thefts;
            case 10: return now.pledgeCount();
            case 11: return now.logLength();
            case 12: return evidence.founds;
            case 13: return evidence.claims;
            case 14: return past.size;
            case 15: return now.joyOfAll();
            default: return HIDDEN;
        }
    }

    private boolean isFaultless(int sort) {
        if (sort == 0) {
            return MarketReader.read(tape, draft);
        }
        return sort == 1 ? tastes.readSpare() : plans.readSpare();
    }

    private int openMarket() {
        market.takeOver(draft);
        now.begin();
        past.forget();
        evidence.forget();
        imaged = false;
        return market.things();
    }

    private boolean mayPass(int n) {
        return market.stands() && n >= 1 && n <= MOST_DAYS && now.today() + n <= LAST_DAY;
    }

    private int doHave(State state, int person, int thing) {
        eye.look(state, person, 0, market.counts[Market.COMING]);
        having.begin(state.hadBy(person), state.heldBy(person));
        having.take(thing);
        for (int i = 0; i < having.size; i++) {
            state.gain(person, having.what[i], having.gave[i]);
        }
        return having.total;
    }

    private boolean mayStep(State state, int plan, int i) {
        int person = plans.told(plan, i, Plans.WHO);
        int other = plans.told(plan, i, Plans.OTHER);
        int thing = plans.told(plan, i, Plans.WHAT);
        switch (plans.told(plan, i, Plans.SORT)) {
            case Plans.HAVING: return state.mayHave(person, thing);
            case Plans.SELLING: return state.maySell(person, other, thing, plans.told(plan, i, Plans.PRICE));
            case Plans.STEALING: return state.maySteal(person, other, thing);
            case Plans.DAY: return state.today() < LAST_DAY;
            default: return false;
        }
    }

    private void doStep(State state, int plan, int i) {
        int person = plans.told(plan, i, Plans.WHO);
        int other = plans.told(plan, i, Plans.OTHER);
        int thing = plans.told(plan, i, Plans.WHAT);
        switch (plans.told(plan, i, Plans.SORT)) {
            case Plans.HAVING:
                doHave(state, person, thing);
                break;
            case Plans.SELLING:
                state.doSell(person, other, thing, plans.told(plan, i, Plans.PRICE));
                break;
            case Plans.STEALING:
                state.doSteal(person, other, thing);
                break;
            default:
                state.endDay();
                break;
        }
    }

    private int joyByHabit(int person, int habit, int n) {
        apart.takeOver(now.cells);
        int total = 0;
        for (int i = 1; i < n; i++) {
            total += joyOfDay(person, habit);
            apart.endDay();
        }
        if (habit != HABIT_OF_NONE) {
            return total + joyOfDay(person, habit);
        }
        int had = apart.hadBy(person);
        eye.look(apart, person, 0, market.things());
        sets.findOrders(had, apart.heldBy(person), market.allThings());
        return sets.best[had];
    }

    private int joyOfDay(int person, int habit) {
        int thing = habit == HABIT_OF_NONE ? NONE : pick(person, habit);
        return thing == NONE ? 0 : doHave(apart, person, thing);
    }

    private int pick(int person, int habit) {
        int had = apart.hadBy(person);
        int open = apart.heldBy(person) & ~had;
        int best = NONE;
        int most = 0;
        eye.look(apart, person, 0, 0);
        for (int t = 0; t < market.things(); t++) {
            if (((open >> t) & 1) == 0) {
                continue;
            }
            int merit = 0;
            if (habit == 1) {
                merit = eye.delight(t, had);
            } else if (habit == 2) {
                merit = -market.harm(t, open);
            }
            if (best == NONE || merit > most) {
                best = t;
                most = merit;
            }
        }
        return best;
    }

    private void liveByDraws(int person) {
        int thing = draw(market.things());
        if (now.mayHave(person, thing)) {
            doHave(now, person, thing);
        } else if (draw(100) < thefts) {
            int other = now.lowestOtherHolder(person, thing);
            if (other != NONE) {
                now.doSteal(person, other, thing);
            }
        }
    }

    private int draw(int k) {
        drawn = drawn * 6364136223846793005L + 1442695040888963407L;
        return k < 1 ? 0 : (int) ((drawn >>> 33) % k);
    }

    /** The bytes fed, and where a reader stands in them. */
    private static final class Tape {
        static final int MOST = 240;
        static final int ENDED = -1;
        final int[] bytes = new int[MOST];
        int length;
        int at;
        int wrong;

        static int bytesIn(int word) {
            int n = 0;
            for (int shift = 0; shift < 32; shift += 8) {
                n += ((word >>> shift) & 255) == 0 ? 0 : 1;
            }
            return n;
        }

        void put(int word) {
            for (int shift = 24; shift >= 0; shift -= 8) {
                int b = (word >>> shift) & 255;
                if (b != 0 && length < MOST) {
                    bytes[length] = b;
                    length++;
                }
            }
        }

        void rewind() {
            at = 0;
            wrong = NONE;
        }

        /** The next sign, blanks passed over. */
        int sign() {
            while (at < length && at < MOST && bytes[at] == ' ') {
                at++;
            }
            return at < length && at < MOST ? bytes[at] : ENDED;
        }

        boolean isOver() {
            return sign() == ENDED;
        }

        boolean failAt(int place) {
            wrong = place;
            return false;
        }

        boolean expect(int wanted) {
            if (sign() != wanted) {
                return failAt(at);
            }
            at++;
            return true;
        }

        /** A digit that is a sign by itself; NONE behind a failure. */
        int digit() {
            int next = sign();
            if (next < '0' || next > '9') {
                failAt(at);
                return NONE;
            }
            at++;
            return next - '0';
        }

        /** A number of so many digits at most; NONE behind a failure. */
        int number(int most) {
            int n = 0;
            int digits = 0;
            // Blanks may stand ahead of a number, not within it.
            sign();
            while (at < length && at < MOST && bytes[at] >= '0' && bytes[at] <= '9' && digits < most) {
                n = n * 10 + bytes[at] - '0';
                digits++;
                at++;
            }
            boolean more = at < length && at < MOST && bytes[at] >= '0' && bytes[at] <= '9';
            if (digits == 0 || more) {
                failAt(at);
                return NONE;
            }
            return n;
        }
    }

    /** What a text tells of things, persons, spoils and comings. */
    private static final class Market {
        static final int THING = 0;
        static final int PERSON = 1;
        static final int SPOIL = 2;
        static final int COMING = 3;
        static final int KINDS = 4;
        static final int WIDTH = 3;
        static final int MOST_THINGS = 8;
        static final int MOST_PERSONS = 6;
        static final int MOST_ROWS = 10;
        static final int ALL_PARTS = 10;
        static final int KIND_SIZE = MOST_ROWS * WIDTH;
        static final int SPOILS_AT = SPOIL * KIND_SIZE;
        static final int[] MOST = {8, 6, 10, 6};
        static final int[] ITEMS = {2, 3, 3, 2};
        static final int[] UNTOLD = {10, 0, 0, 20, 20, 8, 0, 1, 5, 0, 1, 0};

        final int[] counts = new int[KINDS];
        final int[] rows = new int[KINDS * KIND_SIZE];

        void clear() {
            Arrays.fill(counts, 0);
        }

        void takeOver(Market other) {
            System.arraycopy(other.counts, 0, counts, 0, counts.length);
            System.arraycopy(other.rows, 0, rows, 0, rows.length);
        }

        boolean isFull(int kind) {
            return counts[kind] >= MOST[kind];
        }

        /** One more of a kind, with what holds where its clause says nothing. */
        void add(int kind) {
            System.arraycopy(UNTOLD, kind * WIDTH, rows, kind * KIND_SIZE + counts[kind] * WIDTH, WIDTH);
            counts[kind]++;
        }

        void tellNewest(int kind, int item, int value) {
            if (counts[kind] > 0) {
                rows[kind * KIND_SIZE + (counts[kind] - 1) * WIDTH + item] = value;
            }
        }

        int told(int kind, int index, int item) {
            if (index < 0 || index >= counts[kind] || item < 0 || item >= ITEMS[kind]) {
                return NONE;
            }
            return rows[kind * KIND_SIZE + index * WIDTH + item];
        }

        boolean stands() {
            return counts[THING] > 0;
        }

        int things() {
            return counts[THING];
        }

        int persons() {
            return counts[PERSON];
        }

        int allThings() {
            return (1 << counts[THING]) - 1;
        }

        boolean hasThing(int thing) {
            return thing >= 0 && thing < counts[THING];
        }

        boolean hasPerson(int person) {
            return person >= 0 && person < counts[PERSON];
        }

        boolean hasBoth(int person, int thing) {
            return hasPerson(person) && hasThing(thing);
        }

        /** Whether all that clauses name is there. */
        boolean isWhole() {
            if (counts[THING] < 2 || counts[PERSON] < 1) {
                return false;
            }
            for (int p = 0; p < counts[PERSON]; p++) {
                int liked = told(PERSON, p, 2);
                if (liked != MOST_THINGS && !hasThing(liked)) {
                    return false;
                }
            }
            return joinsThings(SPOIL) && joinsThings(COMING);
        }

        private boolean joinsThings(int kind) {
            for (int i = 0; i < counts[kind]; i++) {
                int a = told(kind, i, 0);
                int b = told(kind, i, 1);
                if (a == b || !hasThing(a) || !hasThing(b)) {
                    return false;
                }
            }
            return true;
        }

        int spoilt(int thing, int had) {
            int parts = 0;
            for (int i = 0; i < counts[SPOIL]; i++) {
                int at = SPOILS_AT + i * WIDTH;
                if (rows[at + 1] == thing && ((had >> rows[at]) & 1) == 1) {
                    parts += rows[at + 2];
                }
            }
            return Math.min(parts, ALL_PARTS);
        }

        /** Parts that a thing spoils of those still open. */
        int harm(int thing, int open) {
            int parts = 0;
            for (int i = 0; i < counts[SPOIL]; i++) {
                int at = SPOILS_AT + i * WIDTH;
                if (rows[at] == thing && ((open >> rows[at + 1]) & 1) == 1) {
                    parts += rows[at + 2];
                }
            }
            return parts;
        }

        /** The least row in which nothing is spoilt by one ahead of it. */
        int cleanRow() {
            int row = 0;
            int open = allThings();
            for (int i = 0; i < things(); i++) {
                int thing = lowestHarmless(open);
                if (thing == NONE) {
                    return NONE;
                }
                row = row * 10 + thing;
                open &= ~(1 << thing);
            }
            return row;
        }

        private int lowestHarmless(int open) {
            for (int t = 0; t < things(); t++) {
                if (((open >> t) & 1) == 1 && harm(t, open) == 0) {
                    return t;
                }
            }
            return NONE;
        }

        /** How many spoils go from things of a set to a thing. */
        int spoilsFrom(int set, int thing) {
            int n = 0;
            for (int i = 0; i < counts[SPOIL]; i++) {
                int at = SPOILS_AT + i * WIDTH;
                if (rows[at + 1] == thing && ((set >> rows[at]) & 1) == 1) {
                    n++;
                }
            }
            return n;
        }
    }

    /** Reads a tape as a market. */
    private static final class MarketReader {
        static final char[] KIND_SIGNS = {'x', 'p', 's', 'c'};
        // By kind, three items each; 0 is on no tape.
        static final char[] ITEM_SIGNS = {'v', 'r', 0, 'm', 'g', 'l', 'a', 'b', 'p', 'a', 'b', 0};
        static final int[] LOWEST = {0, 0, 0, 0, 0, 0, 0, 0, 1, 0, 0, 0};
        static final int[] HIGHEST = {99, 9, 0, 99, 99, 8, 7, 7, 9, 7, 7, 0};

        private MarketReader() {
        }

        static boolean read(Tape tape, Market into) {
            into.clear();
            tape.rewind();
            for (int i = 0; i <= Tape.MOST; i++) {
                if (!readClause(tape, into)) {
                    return false;
                }
                if (tape.isOver()) {
                    return into.isWhole() || tape.failAt(tape.length);
                }
                if (!tape.expect(';')) {
                    return false;
                }
            }
            return tape.failAt(tape.length);
        }

        private static boolean readClause(Tape tape, Market into) {
            int kind = kindOf(tape.sign());
            if (kind == NONE || into.isFull(kind)) {
                return tape.failAt(tape.at);
            }
            tape.at++;
            into.add(kind);
            int seen = 0;
            for (int i = 0; i <= Market.WIDTH; i++) {
                int item = itemOf(kind, tape.sign());
                if (item == NONE) {
                    return true;
                }
                if (((seen >> item) & 1) == 1) {
                    return tape.failAt(tape.at);
                }
                seen |= 1 << item;
                tape.at++;
                if (!readItem(tape, into, kind, item)) {
                    return false;
                }
            }
            return tape.failAt(tape.at);
        }

        private static boolean readItem(Tape tape, Market into, int kind, int item) {
            int value = tape.number(2);
            if (value == NONE) {
                return false;
            }
            int index = kind * Market.WIDTH + item;
            if (value < LOWEST[index] || value > HIGHEST[index]) {
                return tape.failAt(tape.at - 1);
            }
            into.tellNewest(kind, item, value);
            return true;
        }

        private static int kindOf(int sign) {
            for (int kind = 0; kind < Market.KINDS; kind++) {
                if (KIND_SIGNS[kind] == sign) {
                    return kind;
                }
            }
            return NONE;
        }

        private static int itemOf(int kind, int sign) {
            for (int item = 0; item < Market.WIDTH; item++) {
                if (ITEM_SIGNS[kind * Market.WIDTH + item] == sign) {
                    return item;
                }
            }
            return NONE;
        }
    }

    /**
     * Tastes, each kept as a row in which what a sign joins stands ahead of it: a number as itself, a letter by its
     * place below 0, a sign as its byte below 0. Behind the last taste is a spare row, for texts only looked at.
     */
    private static final class Tastes {
        static final int MOST_NESTED = 6;
        static final int MOST_DIGITS = 4;
        static final int MOST_WAITING = 64;
        static final int BOUND = 1000000;
        static final char[] LETTERS = {'v', 'r', 'd', 'g', 'm', 'l', 'h'};
        static final int LETTER_COUNT = 7;

        final int[][] codes = new int[TEXTS + 1][Tape.MOST];
        final int[] sizes = new int[TEXTS + 1];
        final int[] waiting = new int[MOST_WAITING];
        final Tape tape;
        int count;
        int holding = NONE;

        Tastes(Tape tape) {
            this.tape = tape;
        }

        /** Reads the tape into the spare row. */
        boolean readSpare() {
            tape.rewind();
            sizes[count] = 0;
            for (int i = 0; i <= Tape.MOST; i++) {
                if (!readClause()) {
                    return false;
                }
                emit(-';');
                if (tape.isOver()) {
                    return true;
                }
                if (!tape.expect(';')) {
                    return false;
                }
            }
            return tape.failAt(tape.length);
        }

        int keepSpare() {
            if (count >= TEXTS) {
                return NONE;
            }
            count++;
            return count - 1;
        }

        private void emit(int code) {
            if (sizes[count] < Tape.MOST) {
                codes[count][sizes[count]] = code;
                sizes[count]++;
            }
        }

        private boolean readClause() {
            if (!tape.expect('y') || !tape.expect(':')) {
                return false;
            }
            int sign = tape.sign();
            if (sign == '!' || sign == '(') {
                return readUnit(0, false) && readMoreUnits(0) && readConsequence();
            }
            if (!readSum(0)) {
                return false;
            }
            if (!isComparison(tape.sign())) {
                return true;
            }
            // Only here it shows that the sum was the left side of a condition.
            return readUnit(0, true) && readMoreUnits(0) && readConsequence();
        }

        private boolean readConsequence() {
            if (!tape.expect('?')) {
                return false;
            }
            emit(-'?');
            return readSum(0);
        }

        /** What goes on behind a condition's first unit; a | waits until the units behind it are joined. */
        private boolean readMoreUnits(int nested) {
            boolean either = false;
            for (int i = 0; i <= Tape.MOST; i++) {
                int sign = tape.sign();
                if (sign != '&' && sign != '|') {
                    break;
                }
                tape.at++;
                if (sign == '|' && either) {
                    emit(-'|');
                }
                either = either || sign == '|';
                if (!readUnit(nested, false)) {
                    return false;
                }
                if (sign == '&') {
                    emit(-'&');
                }
            }
            if (either) {
                emit(-'|');
            }
            return true;
        }

        private boolean readUnit(int nested, boolean leftIsRead) {
            int sign = tape.sign();
            if (!leftIsRead && (sign == '!' || sign == '(')) {
                return readNestedUnit(sign, nested);
            }
            if (!leftIsRead && !readSum(nested)) {
                return false;
            }
            int comparison = tape.sign();
            if (!isComparison(comparison)) {
                return tape.failAt(tape.at);
            }
            tape.at++;
            if (!readSum(nested)) {
                return false;
            }
            emit(-comparison);
            return true;
        }

        private boolean readNestedUnit(int sign, int nested) {
            if (nested >= MOST_NESTED) {
                return tape.failAt(tape.at);
            }
            tape.at++;
            if (!readUnit(nested + 1, false)) {
                return false;
            }
            if (sign == '(') {
                return readMoreUnits(nested + 1) && tape.expect(')');
            }
            emit(-'!');
            return true;
        }

        private static boolean isComparison(int sign) {
            return sign == '=' || sign == '<' || sign == '>';
        }

        /** A + or - waits until the atoms behind it are joined. */
        private boolean readSum(int nested) {
            int late = 0;
            if (!readAtom(nested)) {
                return false;
            }
            for (int i = 0; i <= Tape.MOST; i++) {
                int sign = tape.sign();
                boolean joinsTerms = sign == '+' || sign == '-';
                if (!joinsTerms && sign != '*' && sign != '/') {
                    break;
                }
                tape.at++;
                if (joinsTerms) {
                    emitIfAny(late);
                    late = sign;
                }
                if (!readAtom(nested)) {
                    return false;
                }
                emitIfAny(joinsTerms ? 0 : sign);
            }
            emitIfAny(late);
            return true;
        }

        private void emitIfAny(int sign) {
            if (sign != 0) {
                emit(-sign);
            }
        }

        private boolean readAtom(int nested) {
            int sign = tape.sign();
            if (sign == '[') {
                if (nested >= MOST_NESTED) {
                    return tape.failAt(tape.at);
                }
                tape.at++;
                return readSum(nested + 1) && tape.expect(']');
            }
            for (int i = 0; i < LETTER_COUNT; i++) {
                if (LETTERS[i] == sign) {
                    tape.at++;
                    emit(-1 - i);
                    return true;
                }
            }
            int number = tape.number(MOST_DIGITS);
            if (number == NONE) {
                return false;
            }
            emit(number);
            return true;
        }

        /** The worth by the taste that holds, with these numbers for its letters. */
        int worth(int[] letters) {
            if (holding < 0 || holding >= count) {
                return 0;
            }
            int[] code = codes[holding];
            int top = 0;
            boolean passing = false;
            for (int i = 0; i < sizes[holding]; i++) {
                int sign = -code[i];
                if (sign == ';') {
                    if (!passing && top > 0) {
                        return waiting[top - 1];
                    }
                    passing = false;
                } else if (passing) {
                    continue;
                } else if (sign <= LETTER_COUNT) {
                    if (top < MOST_WAITING) {
                        waiting[top] = sign <= 0 ? -sign : letters[sign - 1];
                        top++;
                    }
                } else if (sign == '?') {
                    passing = top > 0 && waiting[top - 1] == 0;
                    top = 0;
                } else if (sign == '!') {
                    if (top > 0) {
                        waiting[top - 1] = 1 - waiting[top - 1];
                    }
                } else if (top > 1) {
                    top--;
                    waiting[top - 1] = joined(sign, waiting[top - 1], waiting[top]);
                }
            }
            return 0;
        }

        private static int joined(int sign, int a, int b) {
            long n = 0;
            switch (sign) {
                case '+':
                    n = a + b;
                    break;
                case '-':
                    n = a - b;
                    break;
                case '*':
                    n = (long) a * b;
                    break;
                case '/':
                    n = b == 0 ? 0 : a / b;
                    break;
                case '=':
                    n = a == b ? 1 : 0;
                    break;
                case '<':
                    n = a < b ? 1 : 0;
                    break;
                case '>':
                    n = a > b ? 1 : 0;
                    break;
                case '&':
                    n = a & b;
                    break;
                default:
                    n = a | b;
                    break;
            }
            return (int) Math.max(-BOUND, Math.min(BOUND, n));
        }
    }

    /** Plans of deals; behind the last one is a spare row, for texts that are only looked at. */
    private static final class Plans {
        static final int SORT = 0;
        static final int WHO = 1;
        static final int OTHER = 2;
        static final int WHAT = 3;
        static final int PRICE = 4;
        static final int WIDTH = 5;
        static final int HAVING = 0;
        static final int SELLING = 1;
        static final int STEALING = 2;
        static final int DAY = 3;
        static final int MOST_STEPS = 12;

        final int[][] steps = new int[TEXTS + 1][MOST_STEPS * WIDTH];
        final int[] sizes = new int[TEXTS + 1];
        final Tape tape;
        int count;

        Plans(Tape tape) {
            this.tape = tape;
        }

        boolean has(int plan) {
            return plan >= 0 && plan < count;
        }

        int sizeOf(int plan) {
            return has(plan) ? sizes[plan] : 0;
        }

        int told(int plan, int i, int what) {
            if (i < 0 || i >= sizeOf(plan) || what < 0 || what >= WIDTH) {
                return NONE;
            }
            return steps[plan][i * WIDTH + what];
        }

        int keepSpare() {
            if (count >= TEXTS) {
                return NONE;
            }
            count++;
            return count - 1;
        }

        /** Reads the tape into the spare row. */
        boolean readSpare() {
            tape.rewind();
            Arrays.fill(steps[count], NONE);
            for (int i = 0; i < MOST_STEPS; i++) {
                if (!readStep(i * WIDTH)) {
                    return false;
                }
                if (tape.isOver()) {
                    sizes[count] = i + 1;
                    return true;
                }
                if (i + 1 < MOST_STEPS && !tape.expect(';')) {
                    return false;
                }
            }
            return tape.failAt(tape.at);
        }

        private boolean readStep(int from) {
            int[] row = steps[count];
            int sort = sortOf(tape.sign());
            if (sort == NONE) {
                return tape.failAt(tape.at);
            }
            tape.at++;
            row[from + SORT] = sort;
            if (sort == DAY) {
                return true;
            }
            row[from + WHO] = tape.digit();
            if (row[from + WHO] == NONE) {
                return false;
            }
            if (sort != HAVING) {
                row[from + OTHER] = tape.digit();
                if (row[from + OTHER] == NONE) {
                    return false;
                }
            }
            row[from + WHAT] = tape.digit();
            if (row[from + WHAT] == NONE) {
                return false;
            }
            if (sort != SELLING) {
                return true;
            }
            if (!tape.expect(',')) {
                return false;
            }
            row[from + PRICE] = tape.number(2);
            return row[from + PRICE] != NONE;
        }

        private static int sortOf(int sign) {
            switch (sign) {
                case 'h': return HAVING;
                case 's': return SELLING;
                case 't': return STEALING;
                case 'd': return DAY;
                default: return NONE;
            }
        }
    }

    /** All of a market that acts change, in one row, so that keeping it is copying a row. */
    private static final class State {
        static final int MONEY = 0;
        static final int AGE = 1;
        static final int JOY = 2;
        static final int HAD = 3;
        static final int PERSON_WIDTH = 4;
        static final int OWNER = 0;
        static final int PAYER = 1;
        static final int PLEDGED = 2;
        static final int PRICE = 3;
        static final int DUE = 4;
        static final int PLEDGE_WIDTH = 5;
        static final int MOST_PLEDGES = 8;
        static final int MOST_LOGGED = 60;
        static final int OLDEST = 99;

        static final int DAY_AT = 0;
        static final int PLEDGE_COUNT_AT = 1;
        static final int LOG_LENGTH_AT = 2;
        static final int PERSONS_AT = 3;
        static final int HELD_AT = PERSONS_AT + Market.MOST_PERSONS * PERSON_WIDTH;
        static final int PLEDGES_AT = HELD_AT + Market.MOST_PERSONS * Market.MOST_THINGS;
        static final int LOG_AT = PLEDGES_AT + MOST_PLEDGES * PLEDGE_WIDTH;
        static final int SIZE = LOG_AT + MOST_LOGGED;

        final Market market;
        final int[] cells = new int[SIZE];

        State(Market market) {
            this.market = market;
        }

        void begin() {
            Arrays.fill(cells, 0);
            for (int p = 0; p < market.persons(); p++) {
                cells[ofPerson(p, MONEY)] = market.told(Market.PERSON, p, 0);
                cells[ofPerson(p, AGE)] = market.told(Market.PERSON, p, 1);
                for (int t = 0; t < market.things(); t++) {
                    cells[holding(p, t)] = 1;
                }
            }
        }

        void takeOver(int[] other) {
            System.arraycopy(other, 0, cells, 0, SIZE);
        }

        private static int ofPerson(int person, int what) {
            return PERSONS_AT + person * PERSON_WIDTH + what;
        }

        private static int holding(int person, int thing) {
            return HELD_AT + person * Market.MOST_THINGS + thing;
        }

        private static int inPledge(int pledge, int what) {
            return PLEDGES_AT + pledge * PLEDGE_WIDTH + what;
        }

        int today() {
            return cells[DAY_AT];
        }

        int moneyOf(int person) {
            return cells[ofPerson(person, MONEY)];
        }

        int ageOf(int person) {
            return cells[ofPerson(person, AGE)];
        }

        int joyBy(int person) {
            return cells[ofPerson(person, JOY)];
        }

        int hadBy(int person) {
            return cells[ofPerson(person, HAD)];
        }

        int heldOf(int person, int thing) {
            return cells[holding(person, thing)];
        }

        int heldBy(int person) {
            int bits = 0;
            for (int t = 0; t < market.things(); t++) {
                if (heldOf(person, t) > 0) {
                    bits |= 1 << t;
                }
            }
            return bits;
        }

        int heldByAny() {
            int bits = 0;
            for (int p = 0; p < market.persons(); p++) {
                bits |= heldBy(p);
            }
            return bits;
        }

        int joyOfAll() {
            int sum = 0;
            for (int p = 0; p < market.persons(); p++) {
                sum += joyBy(p);
            }
            return sum;
        }

        int leftOf(int thing) {
            int n = 0;
            for (int p = 0; p < market.persons(); p++) {
                n += heldOf(p, thing);
            }
            for (int i = 0; i < pledgeCount(); i++) {
                n += ofPledge(i, PLEDGED) == thing ? 1 : 0;
            }
            return n;
        }

        int lowestOtherHolder(int person, int thing) {
            for (int p = 0; p < market.persons(); p++) {
                if (maySteal(person, p, thing)) {
                    return p;
                }
            }
            return NONE;
        }

        boolean mayHave(int person, int thing) {
            return market.hasBoth(person, thing) && heldOf(person, thing) > 0;
        }

        boolean maySell(int person, int other, int thing, int price) {
            return mayHave(person, thing) && market.hasPerson(other) && person != other
                    && price >= 0 && price <= MOST_PRICE && moneyOf(other) >= price;
        }

        boolean maySteal(int person, int other, int thing) {
            return market.hasPerson(person) && person != other && mayHave(other, thing);
        }

        void doSell(int person, int other, int thing, int price) {
            pay(other, person, price);
            doSteal(other, person, thing);
        }

        void doSteal(int person, int other, int thing) {
            cells[holding(other, thing)]--;
            cells[holding(person, thing)]++;
        }

        private void pay(int from, int to, int price) {
            cells[ofPerson(from, MONEY)] -= price;
            cells[ofPerson(to, MONEY)] += price;
        }

        int pledgeCount() {
            return cells[PLEDGE_COUNT_AT];
        }

        boolean pledgesFull() {
            return pledgeCount() >= MOST_PLEDGES;
        }

        boolean hasPledge(int pledge) {
            return pledge >= 0 && pledge < pledgeCount();
        }

        int ofPledge(int pledge, int what) {
            return cells[inPledge(pledge, what)];
        }

        void doPledge(int person, int other, int thing, int price, int days) {
            int pledge = pledgeCount();
            pay(other, person, price);
            cells[holding(person, thing)]--;
            cells[inPledge(pledge, OWNER)] = person;
            cells[inPledge(pledge, PAYER)] = other;
            cells[inPledge(pledge, PLEDGED)] = thing;
            cells[inPledge(pledge, PRICE)] = price;
            cells[inPledge(pledge, DUE)] = today() + days;
            cells[PLEDGE_COUNT_AT]++;
        }

        boolean mayRedeem(int pledge) {
            return hasPledge(pledge) && moneyOf(ofPledge(pledge, OWNER)) > ofPledge(pledge, PRICE);
        }

        void doRedeem(int pledge) {
            int owner = ofPledge(pledge, OWNER);
            pay(owner, ofPledge(pledge, PAYER), ofPledge(pledge, PRICE) + 1);
            handOver(pledge, owner);
        }

        private void handOver(int pledge, int person) {
            cells[holding(person, ofPledge(pledge, PLEDGED))]++;
            int next = inPledge(pledge + 1, 0);
            System.arraycopy(cells, next, cells, inPledge(pledge, 0), inPledge(pledgeCount(), 0) - next);
            cells[PLEDGE_COUNT_AT]--;
        }

        void endDay() {
            cells[DAY_AT]++;
            for (int p = 0; p < market.persons(); p++) {
                cells[ofPerson(p, AGE)] = Math.min(OLDEST, ageOf(p) + 1);
            }
            for (int i = pledgeCount() - 1; i >= 0; i--) {
                if (ofPledge(i, DUE) <= today()) {
                    handOver(i, ofPledge(i, PAYER));
                }
            }
        }

        /** Things of pledges that one paid for and that are due by a day. */
        int dueTo(int person, int day) {
            int bits = 0;
            for (int i = 0; i < pledgeCount(); i++) {
                if (ofPledge(i, PAYER) == person && ofPledge(i, DUE) <= day) {
                    bits |= 1 << ofPledge(i, PLEDGED);
                }
            }
            return bits;
        }

        void gain(int person, int thing, int gave) {
            cells[holding(person, thing)]--;
            cells[ofPerson(person, HAD)] |= 1 << thing;
            cells[ofPerson(person, JOY)] += gave;
            int kept = Math.min(logLength(), MOST_LOGGED - 1);
            System.arraycopy(cells, LOG_AT, cells, LOG_AT + 1, kept);
            // One number an entry, since each of the forty rows that can be undone holds a whole log.
            cells[LOG_AT] = ((today() * 1000 + gave) * Market.MOST_THINGS + thing) * Market.MOST_THINGS + person;
            cells[LOG_LENGTH_AT] = kept + 1;
        }

        int logLength() {
            return cells[LOG_LENGTH_AT];
        }

        int ofLog(int i, int what) {
            int entry = cells[LOG_AT + i];
            if (what == 0) {
                return entry % Market.MOST_THINGS;
            }
            if (what == 1) {
                return entry / Market.MOST_THINGS % Market.MOST_THINGS;
            }
            int rest = entry / (Market.MOST_THINGS * Market.MOST_THINGS);
            return what == 2 ? rest % 1000 : rest / 1000;
        }
    }

    /** What was ahead of the latest acts, the oldest written over first. */
    private static final class Past {
        static final int MOST = 40;
        final int[] rows = new int[MOST * State.SIZE];
        int next;
        int size;

        void keep(int[] cells) {
            System.arraycopy(cells, 0, rows, next * State.SIZE, State.SIZE);
            next = (next + 1) % MOST;
            size = Math.min(size + 1, MOST);
        }

        boolean bring(int[] cells) {
            if (size == 0) {
                return false;
            }
            next = (next + MOST - 1) % MOST;
            size--;
            System.arraycopy(rows, next * State.SIZE, cells, 0, State.SIZE);
            return true;
        }

        void forget() {
            size = 0;
        }
    }

    /** What things are to one person on one day. */
    private static final class Eye {
        static final int MOST_WHOLE = 999;
        // Places of a taste's letters.
        static final int VALUE = 0;
        static final int RISE = 1;
        static final int DAY = 2;
        static final int AGE = 3;
        static final int MONEY = 4;
        static final int LIKED = 5;
        static final int HAD = 6;

        final Market market;
        final Tastes tastes;
        final int[] letters = new int[Tastes.LETTER_COUNT];
        final int[] wholes = new int[(Market.MOST_THINGS + 1) * Market.MOST_THINGS];

        Eye(Market market, Tastes tastes) {
            this.market = market;
            this.tastes = tastes;
        }

        /** As it is for one so many days on, with what it had, and with so many more had, too. */
        void look(State state, int person, int days, int more) {
            letters[DAY] = state.today() + days;
            letters[AGE] = Math.min(State.OLDEST, state.ageOf(person) + days);
            letters[MONEY] = state.moneyOf(person);
            int had = Integer.bitCount(state.hadBy(person));
            int most = Math.min(market.things(), had + more);
            for (int h = had; h <= most; h++) {
                letters[HAD] = h;
                for (int t = 0; t < market.things(); t++) {
                    wholes[h * Market.MOST_THINGS + t] = weigh(person, t);
                }
            }
        }

        private int weigh(int person, int thing) {
            letters[VALUE] = market.told(Market.THING, thing, 0);
            letters[RISE] = market.told(Market.THING, thing, 1);
            letters[LIKED] = market.told(Market.PERSON, person, 2) == thing ? 1 : 0;
            int worth = (letters[VALUE] + letters[RISE] * letters[DAY]) * (1 + letters[LIKED]);
            if (tastes.holding != NONE) {
                worth = tastes.worth(letters);
            }
            return Math.max(0, Math.min(MOST_WHOLE, worth));
        }

        int whole(int thing, int had) {
            return wholes[Integer.bitCount(had) * Market.MOST_THINGS + thing];
        }

        /** The joy of a thing to one that had these (bits). */
        int delight(int thing, int had) {
            int left = Market.ALL_PARTS - market.spoilt(thing, had);
            return wholes[Integer.bitCount(had) * Market.MOST_THINGS + thing] * left / Market.ALL_PARTS;
        }
    }

    /** One having with all that comes with it, told in rows, so that it can be tried without a state. */
    private static final class Having {
        final Market market;
        final Eye eye;
        final int[] what = new int[Market.MOST_THINGS];
        final int[] gave = new int[Market.MOST_THINGS];
        int size;
        int total;
        int had;
        int held;

        Having(Market market, Eye eye) {
            this.market = market;
            this.eye = eye;
        }

        void begin(int hadAlready, int heldNow) {
            size = 0;
            total = 0;
            had = hadAlready;
            held = heldNow;
        }

        void take(int thing) {
            add(thing, eye.delight(thing, had));
            bringAlong(thing, 0);
        }

        private void add(int thing, int joy) {
            if (size < Market.MOST_THINGS) {
                what[size] = thing;
                gave[size] = joy;
                size++;
                total += joy;
                had |= 1 << thing;
            }
        }

        private void bringAlong(int thing, int depth) {
            if (depth >= Market.MOST_THINGS) {
                return;
            }
            for (int i = 0; i < market.counts[Market.COMING]; i++) {
                int comer = market.told(Market.COMING, i, 1);
                if (market.told(Market.COMING, i, 0) == thing && ((held & ~had) >> comer & 1) == 1) {
                    add(comer, eye.delight(comer, had) / 2);
                    bringAlong(comer, depth + 1);
                }
            }
        }
    }

    /** What is best, found for each set of things from what is best for others. */
    private static final class Sets {
        static final int ALL = 1 << Market.MOST_THINGS;
        static final int NOTHING = 8;
        static final int[] TENS = {1, 10, 100, 1000, 10000, 100000, 1000000, 10000000};
        final Market market;
        final Having having;
        final int[] best = new int[ALL];
        final int[] lengths = new int[ALL];
        final int[] digits = new int[ALL];
        final int[] offers = new int[Market.MOST_THINGS];

        Sets(Market market, Having having) {
            this.market = market;
            this.having = having;
        }

        /**
         * For each set that can be had, the best order of what is left of things: the answer stands at what was had.
         * The eye looks at that person already.
         */
        void findOrders(int had, int held, int things) {
            int open = held & ~had;
            for (int set = market.allThings(); set >= 0; set--) {
                if ((set & had) == had && (set & ~(had | open)) == 0) {
                    findOrder(set, held, open & things & ~set);
                }
            }
        }

        /** The sets above this one, to which every having leads, are done. */
        private void findOrder(int set, int held, int left) {
            best[set] = left == 0 ? 0 : NONE;
            lengths[set] = 0;
            digits[set] = 0;
            for (int t = 0; t < market.things(); t++) {
                if (((left >> t) & 1) == 0) {
                    continue;
                }
                having.begin(set, held);
                having.take(t);
                int then = having.had;
                int joy = having.total + best[then];
                // Things are tried rising, so that of rows of one length the first one is the least.
                if (joy > best[set] || joy == best[set] && lengths[then] + 1 < lengths[set]) {
                    best[set] = joy;
                    lengths[set] = lengths[then] + 1;
                    digits[set] = t * TENS[lengths[then]] + digits[then];
                }
            }
        }

        /** Of all rows the fewest spoils that go from one ahead to one behind. */
        int fewestLeftOut() {
            int all = market.allThings();
            best[0] = 0;
            for (int set = 1; set <= all; set++) {
                best[set] = market.counts[Market.SPOIL];
                for (int t = 0; t < market.things(); t++) {
                    if (((set >> t) & 1) == 1) {
                        int ahead = set & ~(1 << t);
                        best[set] = Math.min(best[set], best[ahead] + market.spoilsFrom(ahead, t));
                    }
                }
            }
            return best[all];
        }

        void beginMatch() {
            Arrays.fill(best, 0);
            Arrays.fill(digits, 0);
        }

        /**
         * The match goes from the last person to the first: for each set that those ahead have taken, the best for
         * this one and all behind it. Offers are its joys, NONE of what nobody can have.
         */
        void matchPerson(int place) {
            // A set reads those above it, which are still those of the person behind.
            for (int taken = 0; taken <= market.allThings(); taken++) {
                int most = NONE;
                int row = 0;
                for (int t = 0; t < market.things(); t++) {
                    int then = taken | 1 << t;
                    if (then != taken && offers[t] != NONE && offers[t] + best[then] > most) {
                        most = offers[t] + best[then];
                        row = t * place + digits[then];
                    }
                }
                if (best[taken] > most) {
                    most = best[taken];
                    row = NOTHING * place + digits[taken];
                }
                best[taken] = most;
                digits[taken] = row;
            }
        }
    }

    /** What was found of a seller, and who claims what. */
    private static final class Evidence {
        static final int MOST = 12;
        static final int NEVER = 1000000;
        final int[] foundThing = new int[MOST];
        final int[] foundSpoilt = new int[MOST];
        final int[] claimPerson = new int[MOST];
        final int[] claimThing = new int[MOST];
        final int[] claimFrom = new int[MOST];
        final int[] claimTo = new int[MOST];
        // Of the thing that was weighed last: the days within which each person had it first.
        final int[] from = new int[Market.MOST_PERSONS];
        final int[] to = new int[Market.MOST_PERSONS];
        int founds;
        int claims;

        void forget() {
            founds = 0;
            claims = 0;
        }

        int addFound(int thing, int spoilt) {
            if (founds >= MOST) {
                return NONE;
            }
            foundThing[founds] = thing;
            foundSpoilt[founds] = spoilt;
            founds++;
            return founds;
        }

        boolean fits(Market market, int set) {
            for (int i = 0; i < founds; i++) {
                if (market.spoilt(foundThing[i], set) != foundSpoilt[i]) {
                    return false;
                }
            }
            return true;
        }

        int addClaim(int person, int thing, int day, int e) {
            if (claims >= MOST) {
                return NONE;
            }
            claimPerson[claims] = person;
            claimThing[claims] = thing;
            claimFrom[claims] = Math.max(0, day - e);
            claimTo[claims] = day + e;
            claims++;
            return claims;
        }

        void weigh(int thing) {
            Arrays.fill(from, NEVER);
            Arrays.fill(to, NEVER);
            for (int i = 0; i < claims; i++) {
                if (claimThing[i] == thing) {
                    int p = claimPerson[i];
                    from[p] = Math.min(from[p], claimFrom[i]);
                    to[p] = Math.min(to[p], claimTo[i]);
                }
            }
        }

        boolean couldBeFirst(int person) {
            if (from[person] == NEVER) {
                return false;
            }
            for (int p = 0; p < Market.MOST_PERSONS; p++) {
                if (p != person && to[p] < from[person]) {
                    return false;
                }
            }
            return true;
        }

        boolean surelyAhead(int person) {
            if (to[person] == NEVER) {
                return false;
            }
            for (int p = 0; p < Market.MOST_PERSONS; p++) {
                if (p != person && from[p] <= to[person]) {
                    return false;
                }
            }
            return true;
        }
    }
}
