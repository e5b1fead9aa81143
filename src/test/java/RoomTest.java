import java.lang.management.ManagementFactory;

/** No call makes objects of its own: a run of many calls stays in the room that the constructor took. */
public final class RoomTest {
    private static long allocated() {
        com.sun.management.ThreadMXBean bean = (com.sun.management.ThreadMXBean) ManagementFactory.getThreadMXBean();
        return bean.getThreadAllocatedBytes(Thread.currentThread().getId());
    }

    private static String big() {
        StringBuilder text = new StringBuilder("road 1000;speed 3;");
        for (int i = 0; i < 9; i++) {
            text.append("cross").append(90 * i + 50).append("wide9cycle").append(70 + 10 * i)
                .append("open").append(i).append("to").append(62 + 10 * i).append("cars3serve2;");
        }
        return text + "column 30x3;gather 500;broken 3 at 9 for 99;";
    }

    private static void calls(ConvoyTown x, int i) {
        x.feed(i, i, i, i, i);
        x.tell(20);
        x.start(i);
        x.split(i % 29);
        x.go(100);
        x.end();
        x.bestStart(60, 0);
        x.best(1, 0);
        x.smooth(60);
        x.slowest(900);
        x.harm(5, 5, 5);
        x.marshals(5);
        x.price(5, 5);
        x.where(4, 444);
        x.waits(444);
        x.fewest();
        x.window(3, 3, 1);
        x.undo();
    }

    public static void main(String[] args) {
        Checks checks = new Checks();
        ConvoyTown x = Checks.told(big());
        calls(x, 0);
        long before = allocated();
        long base = allocated() - before;
        before = allocated();
        for (int i = 1; i <= 28; i++) {
            calls(x, i);
        }
        long made = allocated() - before - base;
        checks.due("bytes made by 504 calls (at most some hundred, of the measure itself)", made < 1000 ? 0 : made, 0);
        before = allocated();
        ConvoyTown y = new ConvoyTown();
        checks.due("a new object is small", allocated() - before < 40000 ? 1 : 0, 1);
        checks.due("and new", y.count(5), 0);
        checks.finish();
    }
}
