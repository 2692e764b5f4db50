import java.util.ArrayList;
import java.util.Arrays;
import java.util.HashMap;
import java.util.List;
import java.util.Map;
import java.util.TreeSet;

/**
 * The document once more, in another way: lists and maps, every order, match and set of days tried one by one, tastes
 * as trees that were never a text. Nothing is shared with the class, so that the two can be held against each other.
 */
final class Model {
    static final class Thing {
        int value = 10;
        int rise = 0;
    }

    static final class Spoil {
        int a = 0;
        int b = 1;
        int parts = 5;
    }

    static final class Coming {
        int a = 0;
        int b = 1;
    }

    static final class Pledge {
        int owner;
        int payer;
        int thing;
        int price;
        int due;
    }

    static final class Person {
        int money = 20;
        int age = 20;
        int likes = 8;
        int joy = 0;
        List<Integer> firsts = new ArrayList<>();
        TreeSet<Integer> had = new TreeSet<>();

        Person copy() {
            Person p = new Person();
            p.money = money;
            p.age = age;
            p.likes = likes;
            p.joy = joy;
            p.firsts = new ArrayList<>(firsts);
            p.had = new TreeSet<>(had);
            return p;
        }
    }

    /** One that values: the clauses of a taste, each a condition (or null) and a sum. */
    interface Node {
        long of(Map<Character, Integer> letters);
    }

    static final class Clause {
        Node condition;
        Node sum;
    }

    List<Thing> things = new ArrayList<>();
    List<Person> persons = new ArrayList<>();
    List<Spoil> spoils = new ArrayList<>();
    List<Coming> comings = new ArrayList<>();
    List<Pledge> pledges = new ArrayList<>();
    List<int[]> log = new ArrayList<>();
    List<Clause> taste = null;
    int day = 0;
    int theft = 0;

    void open() {
        for (Person p : persons) {
            for (int t = 0; t < things.size(); t++) {
                p.firsts.add(1);
            }
        }
    }

    Model copy() {
        Model m = new Model();
        m.things = things;
        m.spoils = spoils;
        m.comings = comings;
        m.taste = taste;
        m.day = day;
        m.theft = theft;
        for (Person p : persons) {
            m.persons.add(p.copy());
        }
        for (Pledge p : pledges) {
            Pledge q = new Pledge();
            q.owner = p.owner;
            q.payer = p.payer;
            q.thing = p.thing;
            q.price = p.price;
            q.due = p.due;
            m.pledges.add(q);
        }
        m.log = new ArrayList<>(log);
        return m;
    }

    int whole(int person, int thing) {
        Person p = persons.get(person);
        Thing t = things.get(thing);
        long worth = t.value + t.rise * day;
        if (p.likes == thing) {
            worth *= 2;
        }
        if (taste != null) {
            Map<Character, Integer> letters = new HashMap<>();
            letters.put('v', t.value);
            letters.put('r', t.rise);
            letters.put('d', day);
            letters.put('g', p.age);
            letters.put('m', p.money);
            letters.put('l', p.likes == thing ? 1 : 0);
            letters.put('h', p.had.size());
            worth = 0;
            for (Clause c : taste) {
                if (c.condition == null || c.condition.of(letters) != 0) {
                    worth = c.sum.of(letters);
                    break;
                }
            }
        }
        return (int) Math.max(0, Math.min(999, worth));
    }

    int spoiltBy(TreeSet<Integer> had, int thing) {
        int parts = 0;
        for (Spoil s : spoils) {
            if (s.b == thing && had.contains(s.a)) {
                parts += s.parts;
            }
        }
        return Math.min(10, parts);
    }

    int joy(int person, int thing) {
        return whole(person, thing) * (10 - spoiltBy(persons.get(person).had, thing)) / 10;
    }

    boolean holds(int person, int thing) {
        return persons.get(person).firsts.get(thing) > 0;
    }

    private void give(int person, int thing, int n) {
        Person p = persons.get(person);
        p.firsts.set(thing, p.firsts.get(thing) + n);
    }

    private void gain(int person, int thing, int joy) {
        Person p = persons.get(person);
        give(person, thing, -1);
        p.had.add(thing);
        p.joy += joy;
        log.add(0, new int[] {person, thing, joy, day});
        while (log.size() > 60) {
            log.remove(60);
        }
    }

    int have(int person, int thing) {
        int joy = joy(person, thing);
        gain(person, thing, joy);
        return joy + come(person, thing);
    }

    private int come(int person, int thing) {
        int sum = 0;
        for (Coming c : comings) {
            if (c.a == thing && !persons.get(person).had.contains(c.b) && holds(person, c.b)) {
                int half = joy(person, c.b) / 2;
                gain(person, c.b, half);
                sum += half + come(person, c.b);
            }
        }
        return sum;
    }

    boolean isPerson(int p) {
        return p >= 0 && p < persons.size();
    }

    boolean isThing(int t) {
        return t >= 0 && t < things.size();
    }

    boolean canHave(int p, int t) {
        return isPerson(p) && isThing(t) && holds(p, t);
    }

    boolean canSell(int p, int o, int t, int price) {
        return canHave(p, t) && isPerson(o) && o != p && price >= 0 && price < 100 && persons.get(o).money >= price;
    }

    boolean canSteal(int p, int o, int t) {
        return isPerson(p) && p != o && canHave(o, t);
    }

    void sell(int p, int o, int t, int price) {
        persons.get(o).money -= price;
        persons.get(p).money += price;
        give(p, t, -1);
        give(o, t, 1);
    }

    void steal(int p, int o, int t) {
        give(o, t, -1);
        give(p, t, 1);
    }

    void pledge(int p, int o, int t, int price, int days) {
        Pledge q = new Pledge();
        q.owner = p;
        q.payer = o;
        q.thing = t;
        q.price = price;
        q.due = day + days;
        pledges.add(q);
        persons.get(o).money -= price;
        persons.get(p).money += price;
        give(p, t, -1);
    }

    boolean canRedeem(int i) {
        return i >= 0 && i < pledges.size() && persons.get(pledges.get(i).owner).money >= pledges.get(i).price + 1;
    }

    int redeem(int i) {
        Pledge q = pledges.remove(i);
        persons.get(q.owner).money -= q.price + 1;
        persons.get(q.payer).money += q.price + 1;
        give(q.owner, q.thing, 1);
        return persons.get(q.owner).money;
    }

    void endDay() {
        day++;
        for (Person p : persons) {
            p.age = Math.min(99, p.age + 1);
        }
        List<Pledge> left = new ArrayList<>();
        for (Pledge q : pledges) {
            if (q.due == day) {
                give(q.payer, q.thing, 1);
            } else {
                left.add(q);
            }
        }
        pledges = left;
    }

    /** Steps as {sort, person, other, thing, price}: how many can be done; they are done here. */
    boolean step(int[] s) {
        switch (s[0]) {
            case 0:
                if (!canHave(s[1], s[3])) {
                    return false;
                }
                have(s[1], s[3]);
                return true;
            case 1:
                if (!canSell(s[1], s[2], s[3], s[4])) {
                    return false;
                }
                sell(s[1], s[2], s[3], s[4]);
                return true;
            case 2:
                if (!canSteal(s[1], s[2], s[3])) {
                    return false;
                }
                steal(s[1], s[2], s[3]);
                return true;
            default:
                if (day >= 999) {
                    return false;
                }
                endDay();
                return true;
        }
    }

    int joyOfAll() {
        return persons.stream().mapToInt(p -> p.joy).sum();
    }

    /** {digits or -1, joy} of the best order, every order tried. */
    int[] order(int person, int set) {
        List<Integer> best = null;
        int most = -1;
        List<List<Integer>> rows = new ArrayList<>();
        List<Integer> joys = new ArrayList<>();
        allOrders(person, set, new ArrayList<>(), 0, rows, joys);
        for (int i = 0; i < rows.size(); i++) {
            List<Integer> row = rows.get(i);
            boolean better = best == null || joys.get(i) > most
                    || joys.get(i) == most && (row.size() < best.size()
                    || row.size() == best.size() && number(row) < number(best));
            if (better) {
                best = row;
                most = joys.get(i);
            }
        }
        return new int[] {best == null || best.isEmpty() ? -1 : number(best), most};
    }

    private static int number(List<Integer> row) {
        int n = 0;
        for (int d : row) {
            n = n * 10 + d;
        }
        return n;
    }

    private void allOrders(int person, int set, List<Integer> row, int joy, List<List<Integer>> rows,
            List<Integer> joys) {
        boolean any = false;
        for (int t = 0; t < things.size(); t++) {
            if ((set >> t & 1) == 1 && holds(person, t) && !persons.get(person).had.contains(t)) {
                any = true;
                Model m = copy();
                int more = m.have(person, t);
                List<Integer> longer = new ArrayList<>(row);
                longer.add(t);
                m.allOrders(person, set, longer, joy + more, rows, joys);
            }
        }
        if (!any) {
            rows.add(row);
            joys.add(joy);
        }
    }

    /** Every row of all things, least first: the first one that is clean. */
    int clean() {
        return clean(new ArrayList<>(), (1 << spoils.size()) - 1);
    }

    private int clean(List<Integer> row, int counting) {
        if (row.size() == things.size()) {
            return number(row);
        }
        for (int t = 0; t < things.size(); t++) {
            if (row.contains(t)) {
                continue;
            }
            boolean spoilt = false;
            for (int i = 0; i < spoils.size(); i++) {
                spoilt |= (counting >> i & 1) == 1 && spoils.get(i).b == t && row.contains(spoils.get(i).a);
            }
            if (spoilt) {
                continue;
            }
            row.add(t);
            int n = clean(row, counting);
            row.remove(row.size() - 1);
            if (n >= 0) {
                return n;
            }
        }
        return -1;
    }

    int rings() {
        int fewest = spoils.size();
        for (int counting = 0; counting < 1 << spoils.size(); counting++) {
            int out = spoils.size() - Integer.bitCount(counting);
            if (out < fewest && clean(new ArrayList<>(), counting) >= 0) {
                fewest = out;
            }
        }
        return fewest;
    }

    /** {digits, how much}, every match tried, the least digits first. */
    int[] match() {
        int[] best = {-1, -1};
        match(0, 0, 0, 0, best);
        return best;
    }

    private void match(int person, int taken, int digits, int sum, int[] best) {
        if (person == persons.size()) {
            if (sum > best[1]) {
                best[0] = digits;
                best[1] = sum;
            }
            return;
        }
        for (int t = 0; t < things.size(); t++) {
            boolean there = false;
            for (int p = 0; p < persons.size(); p++) {
                there |= holds(p, t);
            }
            if (there && (taken >> t & 1) == 0) {
                match(person + 1, taken | 1 << t, digits * 10 + t, sum + joy(person, t), best);
            }
        }
        match(person + 1, taken, digits * 10 + 8, sum, best);
    }

    int[] sale(int thing) {
        int who = 0;
        for (int p = 1; p < persons.size(); p++) {
            if (joy(p, thing) > joy(who, thing)) {
                who = p;
            }
        }
        int next = 0;
        for (int p = 0; p < persons.size(); p++) {
            if (p != who) {
                next = Math.max(next, joy(p, thing));
            }
        }
        return new int[] {who, next};
    }

    int[] await(int person, int thing, int n, int chance) {
        Model m = copy();
        long parts = 1_000_000_000L;
        int when = 0;
        long most = -1;
        for (int i = 0; i <= n; i++) {
            long v = parts * m.joy(person, thing) / 1_000_000_000L;
            if (v > most) {
                most = v;
                when = i;
            }
            long gone = parts * chance / 100;
            parts = parts - gone;
            m.day++;
            m.persons.get(person).age = Math.min(99, m.persons.get(person).age + 1);
        }
        return new int[] {when, (int) most};
    }

    int repeats(int person, int n) {
        Model m = copy();
        for (int i = 0; i < n; i++) {
            m.endDay();
        }
        int none = 0;
        for (int t = 0; t < things.size(); t++) {
            none += m.holds(person, t) ? 0 : 1;
        }
        return none;
    }

    int kept(int person, int habit, int n) {
        Model m = copy();
        int sum = 0;
        for (int i = 0; i < n; i++) {
            if (habit == 3) {
                if (i == n - 1) {
                    sum = m.order(person, (1 << things.size()) - 1)[1];
                }
            } else {
                int t = m.choice(person, habit);
                if (t >= 0) {
                    sum += m.have(person, t);
                }
            }
            m.endDay();
        }
        return sum;
    }

    private int choice(int person, int habit) {
        List<Integer> open = new ArrayList<>();
        for (int t = 0; t < things.size(); t++) {
            if (holds(person, t) && !persons.get(person).had.contains(t)) {
                open.add(t);
            }
        }
        if (open.isEmpty()) {
            return -1;
        }
        if (habit == 1) {
            int most = open.stream().mapToInt(t -> joy(person, t)).max().getAsInt();
            return open.stream().filter(t -> joy(person, t) == most).findFirst().get();
        }
        if (habit == 2) {
            int least = open.stream().mapToInt(t -> harm(t, open)).min().getAsInt();
            return open.stream().filter(t -> harm(t, open) == least).findFirst().get();
        }
        return open.get(0);
    }

    private int harm(int thing, List<Integer> open) {
        return spoils.stream().filter(s -> s.a == thing && open.contains(s.b)).mapToInt(s -> s.parts).sum();
    }

    List<Integer> must(List<int[]> found) {
        List<Integer> sets = new ArrayList<>();
        for (int set = 0; set < 1 << things.size(); set++) {
            TreeSet<Integer> had = new TreeSet<>();
            for (int t = 0; t < things.size(); t++) {
                if ((set >> t & 1) == 1) {
                    had.add(t);
                }
            }
            if (found.stream().allMatch(f -> spoiltBy(had, f[0]) == f[1])) {
                sets.add(set);
            }
        }
        return sets;
    }

    /** Of claims {person, thing, day, e}: {could, alone}, all days of all claims tried. */
    int[] claims(List<int[]> claims, int thing) {
        List<int[]> of = new ArrayList<>();
        for (int[] c : claims) {
            if (c[1] == thing) {
                of.add(c);
            }
        }
        if (of.isEmpty()) {
            return new int[] {0, -1};
        }
        int[] seen = {0, (1 << persons.size()) - 1};
        tryDays(of, 0, new int[of.size()], seen);
        return new int[] {seen[0], seen[1] == 0 ? -1 : Integer.numberOfTrailingZeros(seen[1])};
    }

    private void tryDays(List<int[]> of, int i, int[] days, int[] seen) {
        if (i == of.size()) {
            int first = Arrays.stream(days).min().getAsInt();
            int with = 0;
            for (int k = 0; k < days.length; k++) {
                if (days[k] == first) {
                    with |= 1 << of.get(k)[0];
                }
            }
            seen[0] |= with;
            seen[1] &= Integer.bitCount(with) == 1 ? with : 0;
            return;
        }
        int[] c = of.get(i);
        for (int d = Math.max(0, c[2] - c[3]); d <= c[2] + c[3]; d++) {
            days[i] = d;
            tryDays(of, i + 1, days, seen);
        }
    }

    private long x;

    private int draw(int k) {
        x = x * 6364136223846793005L + 1442695040888963407L;
        return (int) ((x >>> 33) % k);
    }

    void seed(long seed) {
        x = seed;
    }

    /** One day by draws, its end, too. */
    void live() {
        for (int p = 0; p < persons.size(); p++) {
            int t = draw(things.size());
            if (holds(p, t)) {
                have(p, t);
                continue;
            }
            if (draw(100) < theft) {
                for (int o = 0; o < persons.size(); o++) {
                    if (o != p && holds(o, t)) {
                        steal(p, o, t);
                        break;
                    }
                }
            }
        }
        endDay();
    }

    int last(int thing) {
        int n = 0;
        for (Person p : persons) {
            n += p.firsts.get(thing);
        }
        for (Pledge q : pledges) {
            n += q.thing == thing ? 1 : 0;
        }
        return n;
    }

    int richest() {
        int who = 0;
        for (int p = 1; p < persons.size(); p++) {
            who = persons.get(p).money > persons.get(who).money ? p : who;
        }
        return who;
    }
}
