import java.util.NoSuchElementException;
import java.util.function.Consumer;
import java.util.function.ToIntFunction;

/** Two objects that lived alike: one is asked what it must refuse, and then both must stand and go on alike. */
final class Twins {
    /** What asking a call answers that throws NoSuchElementException. */
    static final int THROWN = Integer.MIN_VALUE + 77;

    /** A call with one of its arguments left open. */
    interface Ask {
        int ask(FirstTimes x, int n);
    }

    private Twins() {
    }

    /** The call is refused with this answer, and changes nothing that any later call could tell. */
    static void refused(String what, Consumer<FirstTimes> life, int answer, ToIntFunction<FirstTimes> call) {
        isRefused(what, life, answer, call);
    }

    private static boolean isRefused(String what, Consumer<FirstTimes> life, int answer, ToIntFunction<FirstTimes> call) {
        FirstTimes one = new FirstTimes();
        FirstTimes other = new FirstTimes();
        life.accept(one);
        life.accept(other);
        int answered = answerOf(one, call);
        Told.due(what + " is refused", answered, answer);
        Told.due(what + ": all stands", standing(one), standing(other));
        goOnAlike(what, one, other);
        return answered == answer;
    }

    /** An argument within low .. high is taken, and any other one refused. */
    static void within(String what, Consumer<FirstTimes> life, int low, int high, int refusal, Ask call) {
        for (int n : new int[] {low, high}) {
            FirstTimes x = new FirstTimes();
            life.accept(x);
            Told.due(what + " " + n + " is taken", answerOf(x, y -> call.ask(y, n)) != refusal, true);
        }
        // Where a number just beyond is taken, the farthest ones could keep the call busy for ever.
        boolean bounded = true;
        for (int n : new int[] {low - 1, high + 1, Integer.MIN_VALUE, Integer.MAX_VALUE}) {
            bounded = bounded && isRefused(what + " " + n, life, refusal, y -> call.ask(y, n));
        }
    }

    private static int answerOf(FirstTimes x, ToIntFunction<FirstTimes> call) {
        try {
            return call.applyAsInt(x);
        } catch (NoSuchElementException e) {
            return THROWN;
        }
    }

    /** The acts that can be undone and the image are seen only by bringing them back. */
    private static void goOnAlike(String what, FirstTimes one, FirstTimes other) {
        while (other.count(14) > 0) {
            Told.due(what + ": undo", one.undo(), other.undo());
            Told.due(what + ": undone", briefly(one), briefly(other));
        }
        Told.due(what + ": no more undo", one.undo(), other.undo());
        Told.due(what + ": back", one.back(), other.back());
        Told.due(what + ": all that is back", standing(one), standing(other));
    }

    private static String briefly(FirstTimes x) {
        StringBuilder s = new StringBuilder();
        for (int what = 8; what < 16; what++) {
            s.append(x.count(what)).append(' ');
        }
        for (int p = 0; p < x.count(1); p++) {
            s.append(x.person(p, 0)).append(' ');
            for (int t = 0; t < x.count(0); t++) {
                s.append(x.firsts(p, t)).append(' ');
            }
        }
        return s.toString();
    }

    /** All that an object tells without a change. */
    static String standing(FirstTimes x) {
        StringBuilder s = new StringBuilder();
        for (int what = 0; what < 16; what++) {
            s.append(x.count(what)).append(' ');
        }
        for (int sort = 0; sort < 3; sort++) {
            s.append(x.fault(sort)).append(' ');
        }
        people(x, s);
        rows(x, s);
        evidence(x, s);
        return s.toString();
    }

    private static void people(FirstTimes x, StringBuilder s) {
        for (int p = 0; p < x.count(1); p++) {
            for (int what = 0; what < 5; what++) {
                s.append(x.person(p, what)).append(' ');
            }
            for (int t = 0; t < x.count(0); t++) {
                s.append(x.firsts(p, t)).append('/').append(x.joy(p, t, 0)).append('/').append(x.joy(p, t, 1));
                s.append(' ');
            }
        }
    }

    private static void rows(FirstTimes x, StringBuilder s) {
        for (int i = 0; i < x.count(0); i++) {
            s.append(x.thing(i, 0)).append('/').append(x.thing(i, 1)).append(' ');
        }
        for (int i = 0; i < x.count(2); i++) {
            s.append(x.spoil(i, 0)).append('/').append(x.spoil(i, 1)).append('/').append(x.spoil(i, 2)).append(' ');
        }
        for (int i = 0; i < x.count(3); i++) {
            s.append(x.coming(i, 0)).append('/').append(x.coming(i, 1)).append(' ');
        }
        for (int i = 0; i < x.count(10) * 5; i++) {
            s.append(x.pledged(i / 5, i % 5)).append(' ');
        }
        for (int i = 0; i < x.count(11) * 4; i++) {
            s.append(x.log(i / 4, i % 4)).append(' ');
        }
        for (int plan = 0; plan < x.count(5); plan++) {
            for (int i = 0; x.step(plan, i, 0) != FirstTimes.NONE; i++) {
                s.append(x.step(plan, i, 0)).append(x.step(plan, i, 3)).append(' ');
            }
            s.append(x.run(plan, 0)).append('/').append(x.run(plan, 1)).append(' ');
        }
    }

    private static void evidence(FirstTimes x, StringBuilder s) {
        s.append(x.must(FirstTimes.NONE)).append('/').append(x.sure()).append(' ');
        for (int t = 0; t < x.count(0); t++) {
            s.append(x.could(t)).append('/').append(x.alone(t)).append('/').append(x.last(t)).append(' ');
        }
    }
}
