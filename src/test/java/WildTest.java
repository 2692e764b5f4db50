import java.lang.reflect.InvocationTargetException;
import java.lang.reflect.Method;
import java.lang.reflect.Modifier;
import java.util.ArrayList;
import java.util.Comparator;
import java.util.List;
import java.util.NoSuchElementException;
import java.util.Random;

/** Any calls with any arguments: nothing is thrown but what the document says, and what is refused changes nothing. */
public final class WildTest {
    private static final int OBJECTS = 1500;
    private static final int CALLS = 512;
    private static final String[] MARKETS = {
        "x;x;p", "xv10;xv20r1;xv6;pm9;pm30l1;sa0b1p5;sa1b2p9;ca0b2",
        "xr9;x;x;x;x;x;x;x;p;p;p;p;p;pl7m99g99;sa0b7;sa7b0;sa1b2;sa2b3;sa3b1;s;s;s;s;s;ca0b1;ca1b2;ca2b3;ca3b4;ca4b5;ca5b6",
    };
    private static final String[] TASTES = {
        "y:!(h>1)?[m-g*2]/9;y:0", "y:v*9999*9999", "y:0-v*9999", "y:v/l", "y:!!!!!![v]", "y:h*100+d",
        "y:!!!!!!v>r?[[[[[[h*9999]]]]]]*[0-9999]*d;y:((((((l=1))))))?m",
    };
    private static final String[] PLANS = {"h00;s010,5;t100;d;h11", "d;d;d;d;d;d;d;d;d;d;d;d", "h99;d", "s001,99;t019"};

    private WildTest() {
    }

    public static void main(String[] args) throws ReflectiveOperationException {
        List<Method> face = new ArrayList<>();
        for (Method m : FirstTimes.class.getDeclaredMethods()) {
            if (Modifier.isPublic(m.getModifiers())) {
                face.add(m);
            }
        }
        face.sort(Comparator.comparing(Method::getName));
        Random random = new Random(11);
        for (int i = 0; i < OBJECTS; i++) {
            play(face, random);
        }
        Told.close("WildTest");
    }

    private static void play(List<Method> face, Random random) throws ReflectiveOperationException {
        FirstTimes x = new FirstTimes();
        int wildness = random.nextInt(10);
        for (int i = 0; i < CALLS; i++) {
            if (random.nextInt(25) == 0) {
                int sort = random.nextInt(3);
                String[] texts = sort == 0 ? MARKETS : sort == 1 ? TASTES : PLANS;
                Told.text(x, sort, texts[random.nextInt(texts.length)]);
            }
            Method m = face.get(random.nextInt(face.size()));
            Object[] with = new Object[m.getParameterCount()];
            for (int k = 0; k < with.length; k++) {
                int n = number(random, wildness);
                with[k] = m.getParameterTypes()[k] == long.class ? (Object) (n * 0x100000001L) : (Object) n;
            }
            long before = m.getName().equals("undo") ? 0 : standing(x);
            Object answer = call(x, m, with);
            boolean refused = answer.equals(FirstTimes.NONE) || answer.equals(FirstTimes.HIDDEN) || answer.equals(false);
            if (refused && before != 0) {
                Told.due(m.getName() + " was refused and changes nothing", standing(x), before);
            }
        }
    }

    private static int number(Random random, int wildness) {
        if (random.nextInt(20) < wildness) {
            int[] edges = {Integer.MIN_VALUE, Integer.MAX_VALUE, -1, -2, 8, 9, 12, 13, 30, 31, 40, 60, 61, 99, 100, 101,
                240, 241, 255, 256, 999, 1000, FirstTimes.HIDDEN, 0x78787878, 0x3b3b3b3b};
            return edges[random.nextInt(edges.length)];
        }
        return random.nextInt(4);
    }

    private static Object call(FirstTimes x, Method m, Object[] with) throws ReflectiveOperationException {
        try {
            Object answer = m.invoke(x, with);
            Told.due(m.getName() + " answers", true, true);
            return answer;
        } catch (InvocationTargetException e) {
            boolean told = m.getName().equals("person") && e.getCause() instanceof NoSuchElementException;
            Told.due(m.getName() + java.util.Arrays.toString(with) + " throws " + e.getCause(), told, true);
            return FirstTimes.NONE;
        }
    }

    /** A number for all that can be asked of an object cheaply. */
    private static long standing(FirstTimes x) {
        long n = 1;
        for (int what = 0; what < 16; what++) {
            n = n * 31 + x.count(what);
        }
        for (int p = 0; p < x.count(1); p++) {
            for (int what = 0; what < 5; what++) {
                n = n * 31 + x.person(p, what);
            }
            for (int t = 0; t < x.count(0); t++) {
                n = n * 31 + x.firsts(p, t);
            }
        }
        for (int i = 0; i < x.count(10); i++) {
            for (int what = 0; what < 5; what++) {
                n = n * 31 + x.pledged(i, what);
            }
        }
        for (int i = 0; i < x.count(11); i++) {
            n = n * 31 + x.log(i, 1) * 1000 + x.log(i, 2);
        }
        for (int t = 0; t < x.count(0); t++) {
            n = n * 31 + x.could(t) * 100 + x.alone(t) + x.thing(t, 0);
        }
        return n * 31 + x.must(FirstTimes.NONE);
    }
}
