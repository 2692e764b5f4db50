/** Each promise by hand: ordinary inputs, the edges that the document names, wrong inputs. */
public final class PromisesTest {
    private static final int NONE = FirstTimes.NONE;
    private static final int HIDDEN = FirstTimes.HIDDEN;
    private static final String PAIR = "x;x;p;p";

    private PromisesTest() {
    }

    private static void due(String what, Object got, Object want) {
        Told.due(what, got, want);
    }

    public static void main(String[] args) {
        newObject();
        Told.close("PromisesTest");
    }

    private static void newObject() {
        FirstTimes x = new FirstTimes();
        for (int what = 0; what <= 15; what++) {
            due("1: count " + what, x.count(what), what == 7 ? NONE : 0);
        }
    }
}
