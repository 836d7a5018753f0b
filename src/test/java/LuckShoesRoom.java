import java.lang.management.ManagementFactory;

/** The room that objects and calls take, and that the dearest calls end soon. */
public final class LuckShoesRoom {
    private static final com.sun.management.ThreadMXBean THREADS =
        (com.sun.management.ThreadMXBean) ManagementFactory.getThreadMXBean();
    private static int wrong = 0;
    private static long sum = 0;

    private static long allocated() {
        return THREADS.getThreadAllocatedBytes(Thread.currentThread().getId());
    }

    private static void look(boolean right, String what) {
        System.out.println((right ? "" : "NOT: ") + what);
        wrong += right ? 0 : 1;
    }

    /** A snake through all cells as far as heights allow, much luck, eight people, the longest law. */
    private static LuckShoes dearest() {
        LuckShoes x = new LuckShoes();
        for (int cell = 0; cell < 36; cell++) {
            int y = cell / 6;
            int z = cell % 6;
            x.mend(cell, 0, Math.min(9, Math.abs(y - 2) + Math.abs(z - 3) + 1));
            x.mend(cell, 1, 9000 + cell);
        }
        for (int one = 0; one < 8; one++) {
            x.person(15);
        }
        x.mend(15, 0, 0);
        StringBuilder law = new StringBuilder("l/9");
        while (law.length() < 118) {
            law.append("+s");
        }
        for (int i = 0; i < law.length(); i++) {
            x.feed(law.charAt(i));
        }
        look(x.law() == 1, "a law of " + law.length() + " bytes");
        return x;
    }

    private static void dearCalls(LuckShoes x) {
        sum += x.shoes(0, 129999, 0);
        sum += x.seat(0, 24, 0);
        sum += x.byTurns(1, 236, 0);
        sum += x.drawn(7, 304006, -1);
        sum += x.fall(1548, 99, -1);
        sum += x.still();
        sum += x.rich(0, 9999);
        sum += x.later(48, 15, 0);
        sum += x.all(48, 1);
        sum += x.basin(15);
        x.row(0, 1, 60);
        for (int i = 0; i < 49; i++) {
            x.put(0, i, x.later(i, 0, 0));
        }
        sum += x.judge(0, 0);
        sum += x.seen(0, 15, 1);
        sum += x.seen(0, 0, 0);
    }

    private static void otherCalls(LuckShoes x) {
        for (int v = -3; v < 40; v++) {
            sum += x.person(v) + x.people(v, 0, 8) + x.mend(v, v % 9, v % 3) + x.of(v, v % 9) + x.feed(v) + x.runs(v);
            sum += x.sink(v, v % 3) + x.bets(v, v % 3) + x.margin(v, v % 3) + x.hour() + x.pour(v, v) + x.hang(v, v % 4);
            sum += x.moves(v, v) + x.led(v) + x.image() + x.back() + x.undo() + x.redo() + x.body(v) + x.act(v, v % 5, v);
            sum += x.trace(v) + x.keep(v, v) + x.row(v, v % 6, v) + x.put(v, v, v) + x.element(v, v);
            sum += x.shift(v, v, v, v, v) + x.taken(v, v) + x.count(v) + x.law();
        }
    }

    public static void main(String[] args) {
        LuckShoes x = dearest();
        dearCalls(x);
        otherCalls(new LuckShoes());
        LuckShoes y = dearest();
        LuckShoes z = new LuckShoes();
        long before = allocated();
        long looking = allocated() - before;
        before = allocated();
        dearCalls(y);
        long dear = allocated() - before - looking;
        before = allocated();
        otherCalls(z);
        long other = allocated() - before - looking;
        look(dear == 0 && other == 0, "bytes that calls made: " + dear + ", " + other);
        before = allocated();
        sum += new LuckShoes().count(0);
        long one = allocated() - before - looking;
        look(one > 0 && one < 20000, "bytes that an object takes: " + one);
        long start = System.nanoTime();
        for (int n = 0; n < 20; n++) {
            sum += y.shoes(0, 129999, 0);
        }
        long millis = (System.nanoTime() - start) / 1000000;
        look(millis < 60000, "20 times the dearest call: " + millis + " ms");
        System.out.println("sum " + sum);
        if (wrong != 0) {
            System.exit(1);
        }
    }
}
