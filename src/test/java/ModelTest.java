import java.util.ArrayDeque;
import java.util.ArrayList;
import java.util.Deque;
import java.util.List;
import java.util.Random;

/** Random markets, tastes, plans and runs of calls: the class against the model that tries everything. */
public final class ModelTest {
    private static final int RUNS = 500;
    private static final int CALLS = 200;
    private static final int NONE = FirstTimes.NONE;
    private static final char[] LETTERS = "vrdgmlh".toCharArray();

    private final Random random;
    private final FirstTimes x = new FirstTimes();
    private final Deque<Model> past = new ArrayDeque<>();
    private final List<int[]> found = new ArrayList<>();
    private final List<int[]> claims = new ArrayList<>();
    private final List<List<Model.Clause>> tastes = new ArrayList<>();
    private final List<List<int[]>> plans = new ArrayList<>();
    private Model model = new Model();
    private Model image;
    private String told = "";
    private int bound;

    private ModelTest(long seed) {
        random = new Random(seed);
    }

    public static void main(String[] args) {
        for (int run = 0; run < RUNS; run++) {
            new ModelTest(run).play("run " + run);
        }
        Told.close("ModelTest");
    }

    private int below(int n) {
        return random.nextInt(n);
    }

    private void due(String what, Object got, Object want) {
        Told.due(told + " " + what, got, want);
    }

    private void play(String name) {
        told = name;
        openMarket();
        int tasteCount = below(3);
        for (int i = 0; i < tasteCount; i++) {
            addTaste();
        }
        int planCount = below(3);
        for (int i = 0; i < planCount; i++) {
            addPlan();
        }
        for (int i = 0; i < CALLS; i++) {
            act();
            if (below(4) == 0) {
                compareState();
            }
            if (below(3) == 0) {
                ask();
            }
        }
        compareState();
    }

    private void openMarket() {
        Model old = model;
        model = new Model();
        model.theft = old.theft;
        model.taste = old.taste;
        // Large sets are dear to the model, so most markets are small.
        int things = below(10) == 0 ? 6 + below(2) : 2 + below(4);
        int persons = 1 + below(below(5) == 0 ? 6 : 4);
        List<String> clauses = new ArrayList<>();
        int[] kinds = new int[things + persons + below(11) + below(7)];
        for (int i = 0; i < kinds.length; i++) {
            kinds[i] = i < things ? 0 : i < things + persons ? 1 : 2;
        }
        int spoils = 0;
        int comings = 0;
        for (int i = 0; i < kinds.length; i++) {
            int j = below(i + 1);
            int k = kinds[i];
            kinds[i] = kinds[j];
            kinds[j] = k;
        }
        for (int kind : kinds) {
            if (kind == 0) {
                clauses.add(thingClause());
            } else if (kind == 1) {
                clauses.add(personClause(things));
            } else if (below(8) < 5 && spoils < 10) {
                spoils++;
                clauses.add(spoilClause(things));
            } else if (comings < 6) {
                comings++;
                clauses.add(comingClause(things));
            }
        }
        String text = String.join(below(2) == 0 ? ";" : " ; ", clauses);
        if (text.length() > 240) {
            text = text.replace(" ", "");
        }
        if (text.length() > 240) {
            model = old;
            openMarket();
            return;
        }
        model.open();
        image = null;
        past.clear();
        found.clear();
        claims.clear();
        bound = 0;
        due("market " + text, Told.text(x, 0, text), things);
    }

    private String item(char letter, int n) {
        String number = n < 10 && below(4) == 0 ? "0" + n : "" + n;
        return (below(5) == 0 ? " " : "") + letter + (below(5) == 0 ? " " : "") + number;
    }

    private String thingClause() {
        Model.Thing t = new Model.Thing();
        String s = "x";
        if (below(4) != 0) {
            t.value = below(100);
            s += item('v', t.value);
        }
        if (below(2) == 0) {
            t.rise = below(10);
            s = below(2) == 0 ? s + item('r', t.rise) : "x" + item('r', t.rise) + s.substring(1);
        }
        model.things.add(t);
        return s;
    }

    private String personClause(int things) {
        Model.Person p = new Model.Person();
        String s = "p";
        if (below(2) == 0) {
            p.likes = below(things + 1) == things ? 8 : below(things);
            s += item('l', p.likes);
        }
        if (below(3) != 0) {
            p.money = below(100);
            s += item('m', p.money);
        }
        if (below(2) == 0) {
            p.age = below(2) == 0 ? below(100) : 90 + below(10);
            s += item('g', p.age);
        }
        model.persons.add(p);
        return s;
    }

    private String spoilClause(int things) {
        Model.Spoil m = new Model.Spoil();
        String s = "s";
        if (below(6) != 0) {
            m.a = below(things);
            m.b = (m.a + 1 + below(things - 1)) % things;
            s += item('b', m.b) + item('a', m.a);
        }
        if (below(3) != 0) {
            m.parts = 1 + below(9);
            s += item('p', m.parts);
        }
        model.spoils.add(m);
        return s;
    }

    private String comingClause(int things) {
        Model.Coming m = new Model.Coming();
        String s = "c";
        if (below(6) != 0) {
            m.a = below(things);
            m.b = (m.a + 1 + below(things - 1)) % things;
            s += item('a', m.a) + item('b', m.b);
        }
        model.comings.add(m);
        return s;
    }

    // ---- tastes: a tree is made, and told as a text beside it

    private StringBuilder out = new StringBuilder();

    private String blank() {
        return below(8) == 0 ? " " : "";
    }

    private void put(String s) {
        out.append(blank()).append(s);
    }

    private static long within(long n) {
        return Math.max(-1000000, Math.min(1000000, n));
    }

    private Model.Node atom(int depth) {
        int sort = below(depth < 5 ? 5 : 4);
        if (sort < 2) {
            int n = below(2) == 0 ? below(12) : below(10000);
            put("" + n);
            return letters -> n;
        }
        if (sort < 4) {
            char c = LETTERS[below(LETTERS.length)];
            put("" + c);
            return letters -> letters.get(c);
        }
        put("[");
        Model.Node inside = sum(depth + 1);
        put("]");
        return inside;
    }

    private Model.Node term(int depth) {
        Model.Node left = atom(depth);
        int n = below(3) == 0 ? 1 + below(2) : 0;
        for (int i = 0; i < n; i++) {
            boolean times = below(2) == 0;
            put(times ? "*" : "/");
            Model.Node a = left;
            Model.Node b = atom(depth);
            left = times ? l -> within(a.of(l) * b.of(l)) : l -> b.of(l) == 0 ? 0 : within(a.of(l) / b.of(l));
        }
        return left;
    }

    private Model.Node sum(int depth) {
        Model.Node left = term(depth);
        int n = below(3) == 0 ? 1 + below(2) : 0;
        for (int i = 0; i < n; i++) {
            boolean plus = below(2) == 0;
            put(plus ? "+" : "-");
            Model.Node a = left;
            Model.Node b = term(depth);
            left = plus ? l -> within(a.of(l) + b.of(l)) : l -> within(a.of(l) - b.of(l));
        }
        return left;
    }

    private Model.Node unit(int depth) {
        int sort = below(depth < 4 ? 5 : 3);
        if (sort == 3) {
            put("!");
            Model.Node inside = unit(depth + 1);
            return l -> inside.of(l) == 0 ? 1 : 0;
        }
        if (sort == 4) {
            put("(");
            Model.Node inside = condition(depth + 1);
            put(")");
            return inside;
        }
        Model.Node a = sum(depth);
        put("" + "=<>".charAt(sort));
        Model.Node b = sum(depth);
        return l -> (sort == 0 ? a.of(l) == b.of(l) : sort == 1 ? a.of(l) < b.of(l) : a.of(l) > b.of(l)) ? 1 : 0;
    }

    private Model.Node truth(int depth) {
        Model.Node left = unit(depth);
        while (below(3) == 0) {
            put("&");
            Model.Node a = left;
            Model.Node b = unit(depth);
            left = l -> a.of(l) * b.of(l);
        }
        return left;
    }

    private Model.Node condition(int depth) {
        Model.Node left = truth(depth);
        while (below(3) == 0) {
            put("|");
            Model.Node a = left;
            Model.Node b = truth(depth);
            left = l -> Math.max(a.of(l), b.of(l));
        }
        return left;
    }

    private void addTaste() {
        for (int tries = 0; tries < 50; tries++) {
            out = new StringBuilder();
            List<Model.Clause> clauses = new ArrayList<>();
            int n = 1 + below(3);
            for (int i = 0; i < n; i++) {
                put(i == 0 ? "y" : ";" + blank() + "y");
                put(":");
                Model.Clause c = new Model.Clause();
                if (below(3) != 0) {
                    c.condition = condition(0);
                    put("?");
                }
                c.sum = sum(0);
                clauses.add(c);
            }
            out.append(blank());
            if (out.length() <= 240) {
                boolean full = tastes.size() == 4;
                due("taste " + out, Told.text(x, 1, out.toString()), full ? NONE : tastes.size());
                x.end(0);
                if (!full) {
                    tastes.add(clauses);
                }
                return;
            }
        }
    }

    private void addPlan() {
        StringBuilder s = new StringBuilder();
        List<int[]> steps = new ArrayList<>();
        int n = 1 + below(12);
        for (int i = 0; i < n; i++) {
            int[] step = {below(4), NONE, NONE, NONE, NONE};
            s.append(i == 0 ? "" : ";").append(blank()).append("hstd".charAt(step[0]));
            if (step[0] != 3) {
                step[1] = below(model.persons.size() + (below(20) == 0 ? 2 : 0));
                s.append(blank()).append(step[1]);
            }
            if (step[0] == 1 || step[0] == 2) {
                step[2] = below(model.persons.size());
                s.append(blank()).append(step[2]);
            }
            if (step[0] != 3) {
                step[3] = below(model.things.size() + (below(20) == 0 ? 2 : 0));
                s.append(blank()).append(step[3]);
            }
            if (step[0] == 1) {
                step[4] = below(20);
                s.append(blank()).append(',').append(blank()).append(step[4] < 10 && below(3) == 0 ? "0" : "")
                        .append(step[4]);
            }
            steps.add(step);
        }
        boolean full = plans.size() == 4;
        due("plan " + s, Told.text(x, 2, s.toString()), full ? NONE : plans.size());
        x.end(0);
        if (!full) {
            plans.add(steps);
            for (int i = 0; i < n; i++) {
                for (int what = 0; what < 5; what++) {
                    due("step", x.step(plans.size() - 1, i, what), steps.get(i)[what]);
                }
            }
        }
    }

    // ---- acts

    private void keep() {
        past.push(model.copy());
        while (past.size() > 40) {
            past.removeLast();
        }
    }

    private int who() {
        return below(model.persons.size() + 2) - (below(9) == 0 ? 1 : 0);
    }

    private int what() {
        return below(model.things.size() + (below(5) == 0 ? 2 : 0)) - (below(15) == 0 ? 1 : 0);
    }

    private void act() {
        int p = who();
        int o = who();
        int t = what();
        int price = below(9) == 0 ? below(120) - 10 : below(25);
        switch (below(16)) {
            case 0:
            case 1:
            case 2:
                if (model.canHave(p, t)) {
                    keep();
                    due("have " + p + " " + t, x.have(p, t), model.have(p, t));
                } else {
                    due("have " + p + " " + t, x.have(p, t), NONE);
                }
                break;
            case 3:
            case 4:
                if (model.canSell(p, o, t, price)) {
                    keep();
                    model.sell(p, o, t, price);
                    due("sell", x.sell(p, o, t, price), model.persons.get(p).money);
                } else {
                    due("sell", x.sell(p, o, t, price), NONE);
                }
                break;
            case 5:
            case 6:
                if (model.canSteal(p, o, t)) {
                    keep();
                    model.steal(p, o, t);
                    due("steal", x.steal(p, o, t), model.persons.get(p).firsts.get(t));
                } else {
                    due("steal", x.steal(p, o, t), NONE);
                }
                break;
            case 7:
            case 8:
                actPledge(p, o, t, price);
                break;
            case 9:
                actRedeem();
                break;
            case 10:
                actDays();
                break;
            case 11:
            case 12:
                due("undo", x.undo(), past.isEmpty() ? NONE : past.size() - 1);
                if (!past.isEmpty()) {
                    goTo(past.pop());
                }
                break;
            case 13:
                actPlan();
                break;
            case 14:
                actImage();
                break;
            default:
                actOther();
                break;
        }
    }

    /** Which taste holds and theft are no part of what is undone. */
    private void goTo(Model m) {
        m.taste = model.taste;
        m.theft = model.theft;
        model = m;
    }

    private void actPledge(int p, int o, int t, int price) {
        int days = below(9) == 0 ? below(40) - 5 : 1 + below(6);
        if (model.canSell(p, o, t, price) && days >= 1 && days <= 30 && model.pledges.size() < 8) {
            keep();
            model.pledge(p, o, t, price, days);
            due("pledge", x.pledge(p, o, t, price, days), model.pledges.size());
        } else {
            due("pledge", x.pledge(p, o, t, price, days), NONE);
        }
    }

    private void actRedeem() {
        int i = below(model.pledges.size() + 2) - 1;
        if (model.canRedeem(i)) {
            keep();
            int got = x.redeem(i);
            due("redeem", got, model.redeem(i));
        } else {
            due("redeem", x.redeem(i), NONE);
        }
    }

    private void actDays() {
        int n = below(6) == 0 ? below(40) - 5 : 1 + below(3);
        boolean may = n >= 1 && n <= 30 && model.day + n <= 999;
        long seed = random.nextLong();
        boolean byDraws = below(2) == 0;
        for (int i = 0; may && i < n; i++) {
            keep();
            if (byDraws) {
                if (i == 0) {
                    model.seed(seed);
                }
                model.live();
            } else {
                model.endDay();
            }
        }
        due("days or years " + n, byDraws ? x.years(n, seed) : x.days(n), may ? model.day : NONE);
    }

    private void actPlan() {
        int plan = below(5) - 1;
        boolean there = plan >= 0 && plan < plans.size();
        if (!there) {
            due("run", x.run(plan, 0), FirstTimes.HIDDEN);
            due("perform", x.perform(plan), NONE);
            return;
        }
        Model apart = model.copy();
        int done = 0;
        int size = plans.get(plan).size();
        while (done < size && apart.step(plans.get(plan).get(done))) {
            done++;
        }
        due("run", x.run(plan, 0), done == size ? NONE : done);
        due("run's joy", x.run(plan, 1), apart.joyOfAll() - model.joyOfAll());
        if (below(2) == 0) {
            for (int i = 0; i < done; i++) {
                keep();
                model.step(plans.get(plan).get(i));
            }
            due("perform", x.perform(plan), done);
        }
    }

    private void actImage() {
        if (below(2) == 0) {
            image = model.copy();
            due("image", x.image(), model.day);
        } else if (image == null) {
            due("back", x.back(), NONE);
        } else {
            goTo(image.copy());
            past.clear();
            due("back", x.back(), model.day);
        }
    }

    private void actOther() {
        int sort = below(12);
        if (sort < 4) {
            int v = below(5) == 0 ? below(120) - 10 : below(3) * 50 / 2;
            boolean may = v >= 0 && v <= 99 && v != model.theft;
            due("theft", x.theft(v), may);
            model.theft = may ? v : model.theft;
        } else if (sort < 8) {
            int v = below(6) - 2;
            boolean may = v >= NONE && v < tastes.size();
            due("taste", x.taste(v), may);
            if (may) {
                model.taste = v == NONE ? null : tastes.get(v);
                bound = v + 1;
            }
        } else if (sort == 8) {
            addTaste();
        } else if (sort == 9) {
            addPlan();
        } else if (below(4) == 0) {
            int holding = bound;
            openMarket();
            bound = holding;
        }
    }

    // ---- answers that change nothing

    private void compareState() {
        due("things", x.count(0), model.things.size());
        due("persons", x.count(1), model.persons.size());
        due("spoils", x.count(2), model.spoils.size());
        due("comings", x.count(3), model.comings.size());
        due("tastes", x.count(4), tastes.size());
        due("plans", x.count(5), plans.size());
        due("which holds", x.count(7), bound - 1);
        due("day", x.count(8), model.day);
        due("theft", x.count(9), model.theft);
        due("pledges", x.count(10), model.pledges.size());
        due("log", x.count(11), model.log.size());
        due("found", x.count(12), found.size());
        due("claims", x.count(13), claims.size());
        due("acts", x.count(14), past.size());
        due("joys", x.count(15), model.joyOfAll());
        due("richest", x.richest(), model.richest());
        for (int p = 0; p < model.persons.size(); p++) {
            comparePerson(p);
        }
        for (int t = 0; t < model.things.size(); t++) {
            due("last", x.last(t), model.last(t));
        }
        for (int i = 0; i < model.pledges.size(); i++) {
            Model.Pledge q = model.pledges.get(i);
            int[] want = {q.owner, q.payer, q.thing, q.price, q.due, NONE};
            for (int what = 0; what < want.length; what++) {
                due("pledged", x.pledged(i, what), want[what]);
            }
        }
        for (int i = 0; i <= model.log.size(); i++) {
            for (int what = 0; what < 4; what++) {
                due("log", x.log(i, what), i < model.log.size() ? model.log.get(i)[what] : NONE);
            }
        }
    }

    private void comparePerson(int p) {
        Model.Person q = model.persons.get(p);
        int bits = 0;
        for (int t : q.had) {
            bits |= 1 << t;
        }
        int[] want = {q.money, q.age, q.likes == 8 ? NONE : q.likes, q.joy, bits};
        for (int what = 0; what < want.length; what++) {
            due("person " + p + " " + what, Told.person(x, p, what), "" + want[what]);
        }
        for (int t = 0; t < model.things.size(); t++) {
            due("firsts", x.firsts(p, t), q.firsts.get(t));
            due("whole", x.joy(p, t, 0), model.whole(p, t));
            due("spoilt", x.joy(p, t, 1), model.spoiltBy(q.had, t));
            due("joy", x.joy(p, t, 2), model.joy(p, t));
        }
    }

    private void ask() {
        int p = below(model.persons.size());
        int t = below(model.things.size());
        int all = (1 << model.things.size()) - 1;
        switch (below(9)) {
            case 0:
                int set = below(all + 1);
                int[] order = model.order(p, set);
                due("order " + set, x.order(p, set, 0), order[0]);
                due("order's joy", x.order(p, set, 1), order[1]);
                break;
            case 1:
                due("clean", x.clean(), model.clean());
                if (below(10) == 0) {
                    due("rings", x.rings(), model.rings());
                }
                break;
            case 2:
                if (model.persons.size() * model.things.size() <= 25) {
                    int[] match = model.match();
                    due("pairing", x.pairing(0), match[0]);
                    due("pairing's sum", x.pairing(1), match[1]);
                }
                break;
            case 3:
                due("sale", x.sale(t, 0), model.sale(t)[0]);
                due("sale's price", x.sale(t, 1), model.sale(t)[1]);
                break;
            case 4:
                int n = below(31);
                int chance = below(3) == 0 ? below(101) : below(12);
                boolean held = model.holds(p, t);
                due("awaits", x.awaits(p, t, n, chance, 0), held ? model.await(p, t, n, chance)[0] : NONE);
                due("awaits' worth", x.awaits(p, t, n, chance, 1), held ? model.await(p, t, n, chance)[1] : NONE);
                break;
            case 5:
                int behind = below(61);
                due("repeats", x.repeats(p, behind), model.repeats(p, behind));
                break;
            case 6:
                askHabits(p, 1 + below(below(4) == 0 ? 30 : 6));
                break;
            case 7:
                askFound(t);
                break;
            default:
                askClaims(p, t);
                break;
        }
    }

    private void askHabits(int p, int n) {
        int best = 0;
        int most = -1;
        for (int h = 0; h < 4; h++) {
            int kept = model.kept(p, h, n);
            due("kept " + h + " " + n, x.kept(p, h, n), kept);
            if (kept > most) {
                most = kept;
                best = h;
            }
        }
        due("habit", x.habit(p, n, 0), best);
        due("habit's joy", x.habit(p, n, 1), most);
    }

    private void askFound(int t) {
        // Mostly what some set gives, so that sets are left.
        int spoilt = below(8) == 0 ? below(11) : model.spoiltBy(model.persons.get(0).had, t);
        boolean full = found.size() == 12;
        due("found", x.found(t, spoilt), full ? NONE : found.size() + 1);
        if (!full) {
            found.add(new int[] {t, spoilt});
        }
        List<Integer> sets = model.must(found);
        due("must", x.must(NONE), sets.size());
        int sure = NONE;
        for (int i = 0; i < sets.size(); i++) {
            due("must " + i, x.must(i), sets.get(i));
            sure &= sets.get(i);
        }
        due("must behind the last", x.must(sets.size()), NONE);
        due("sure", x.sure(), sets.isEmpty() ? NONE : sure);
    }

    private void askClaims(int p, int t) {
        long ofThing = claims.stream().filter(c -> c[1] == t).count();
        // The model tries all days of all claims of one thing.
        if (ofThing < 4) {
            int[] claim = {p, t, below(3) == 0 ? below(3) : below(12), below(4)};
            boolean full = claims.size() == 12;
            due("claim", x.claim(claim[0], t, claim[2], claim[3]), full ? NONE : claims.size() + 1);
            if (!full) {
                claims.add(claim);
            }
        }
        int[] want = model.claims(claims, t);
        due("could", x.could(t), want[0]);
        due("alone", x.alone(t), want[1]);
    }
}
