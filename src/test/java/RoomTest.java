import java.lang.management.ManagementFactory;

/** All calls of a run live in one room: what is made is made with the object, hardly anything later. */
public final class RoomTest {
    private static final Check check = new Check();
    private static final String LAW = "rent 1 when not(lodgers<2 and frost=0)or sum>wall*4/3;gnaws 600 when wall=9;melts rain/2;";

    public static void main(String[] args) {
        com.sun.management.ThreadMXBean bean = (com.sun.management.ThreadMXBean) ManagementFactory.getThreadMXBean();
        long me = Thread.currentThread().getId();
        warmUp();
        long start = bean.getThreadAllocatedBytes(me);
        GingerRents x = new GingerRents();
        long made = bean.getThreadAllocatedBytes(me) - start;
        tellAll(x);
        long before = bean.getThreadAllocatedBytes(me);
        int calls = dearCalls(x);
        long spent = bean.getThreadAllocatedBytes(me) - before;
        System.out.println("an object: " + made + " bytes; " + calls + " calls: " + spent + " bytes");
        check.holds("an object is small", made < 100_000);
        // 7.3 million elements for a run are some 14,000 for a call; these make next to none.
        check.holds("calls make next to nothing", spent < 100L * calls);
        check.finish("RoomTest");
    }

    private static void warmUp() {
        GingerRents x = new GingerRents();
        tellAll(x);
        dearCalls(x);
    }

    private static void tellAll(GingerRents x) {
        for (int i = 0; i < 12; i++) {
            x.house(99, 1, 1);
            x.piece(i);
            x.dough(i + 1);
            x.mark(i + 1);
            x.bite(i, 1);
            x.crumb(i % 4);
            x.loaf(i + 1, 12 - i);
            x.heir(i, (i + 1) % 12);
            x.member(i, 1 + i % 9);
        }
        Check.tell(x, 3, "house 0 next 1;house 1 next 2;house 2 next 3;house 3 next 0;");
        Check.tell(x, 0, LAW);
    }

    private static int dearCalls(GingerRents x) {
        int calls = 0;
        for (int i = 0; i < 10; i++) {
            for (int from = 0; from < 100; from += 20) {
                x.feed(1919250036, 540095027, 991961120, 538976288, 538976288);
                calls++;
            }
            x.text(0);
            x.image(true);
            x.image(false);
            x.stands(0);
            x.goes(60, 0);
            x.quarters(1);
            x.act(0, 0, 1);
            x.undo();
            x.hears(0, 2);
            x.heard(0, 800);
            x.ants(0, 2);
            x.alone(1);
            x.plate(5, 1);
            x.pans(12, 0);
            x.pans(12, 1);
            x.ovens(0);
            x.ovens(15);
            x.measures(1);
            x.crumbs(1);
            x.line(3, 0);
            x.council(1);
            x.window(20);
            x.game(5, 6);
            calls += 23;
        }
        return calls;
    }
}
