import java.lang.management.ManagementFactory;

/** All calls of a run live in one room: an object is made once, and no call makes another. */
public final class RoomTest {
    private static final String LARGE =
            "xv9r9;x;x;x;x;x;x;x;p;p;p;p;p;pl7m99;sa0b7;sa7b0;sa1b2;sa2b3;sa3b1;s;s;s;s;s;ca0b1;ca1b2;ca2b3;ca3b4;ca4b5;ca5b6";

    private RoomTest() {
    }

    private static long made() {
        return ((com.sun.management.ThreadMXBean) ManagementFactory.getThreadMXBean()).getCurrentThreadAllocatedBytes();
    }

    public static void main(String[] args) {
        use(prepared());
        FirstTimes x = prepared();
        long before = made();
        use(x);
        long byCalls = made() - before;
        // Only what Told makes of exceptions and the like.
        Told.due("bytes made by 500 calls are next to none (" + byCalls + ")", byCalls < 4096, true);
        before = made();
        FirstTimes y = new FirstTimes();
        long byObject = made() - before;
        Told.due("an object is small (" + byObject + " bytes)", byObject < 65536 && y.count(0) == 0, true);
        Told.close("RoomTest");
    }

    private static FirstTimes prepared() {
        FirstTimes x = Told.market(LARGE);
        Told.text(x, 1, "y:!(h>1)?[v+g*2]/9;y:v*[9-h]+d");
        Told.text(x, 2, "h00;s010,5;t100;d;h11");
        x.taste(0);
        x.theft(50);
        return x;
    }

    private static void use(FirstTimes x) {
        for (int i = 0; i < 20; i++) {
            x.feed(0x783b783b, 0x70202020, 0, 0, 0);
            x.fault(i % 3);
            x.end(0);
            x.image();
            x.perform(0);
            x.run(0, 1);
            x.order(i % 6, 255, 0);
            x.habit(i % 6, 30, 0);
            x.kept(i % 6, 3, 30);
            x.pairing(0);
            x.rings();
            x.clean();
            x.sale(0, 0);
            x.awaits(1, 5, 30, 3, 0);
            x.repeats(0, 60);
            x.have(2, i % 8);
            x.pledge(3, 5, i % 8, 1, 9);
            x.redeem(0);
            x.years(30, i);
            x.undo();
            x.must(7);
            x.sure();
            x.found(0, 0);
            x.claim(1, 1, i, 2);
            x.could(1);
            x.back();
        }
    }
}
