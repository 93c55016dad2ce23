import java.lang.management.ManagementFactory;

/** All rows are made in the constructor: the dearest calls, again and again, make no object. */
public final class RoomTest {
    private static final Checks C = new Checks();

    public static void main(String[] args) {
        com.sun.management.ThreadMXBean room = (com.sun.management.ThreadMXBean) ManagementFactory.getThreadMXBean();
        CoastLights x = Checks.of(chart());
        calls(x, 1);
        long before = room.getThreadAllocatedBytes(Thread.currentThread().getId());
        int sum = calls(x, 200);
        long made = room.getThreadAllocatedBytes(Thread.currentThread().getId()) - before;
        System.out.println("bytes made by 200 rounds of calls: " + made + " (" + sum + ")");
        C.due("next to nothing is made", made < 20000, true);
        long first = room.getThreadAllocatedBytes(Thread.currentThread().getId());
        new CoastLights();
        long object = room.getThreadAllocatedBytes(Thread.currentThread().getId()) - first;
        System.out.println("bytes of one object: " + object);
        C.due("one object is small", object < 60000, true);
        C.close();
    }

    private static String chart() {
        StringBuilder s = new StringBuilder();
        for (char c = 'a'; c <= 'h'; c++) {
            s.append("light ").append(c).append(" 5 5 9 red 999;");
            s.append("flash ").append(c).append(" 20 20;").append("flash ").append(c).append(" 20 20;");
        }
        return s + "ship s 0 0 0 60;ship t 9 9 0 1;";
    }

    private static int calls(CoastLights x, int rounds) {
        int sum = 0;
        for (int i = 0; i < rounds; i++) {
            sum += x.waits(0) + x.odds(1, 30, i) + x.drawn(60, i) + x.undo() + x.burn(3) + x.apart(0, 1) + x.both(0, 1);
            sum += x.spots(255) + x.most() + x.confused() + x.change() + x.tag(0) + x.ship(1, 5) + x.light(0, 9);
            sum += x.mean(0) + x.seconds(3) + x.undo() + x.haze(3) + x.undo() + x.visible(4, 4);
            x.image(0);
            x.restore(0);
            x.feed(0x02020202, 0x02020202, 0x02020202, 0x02020202, 0x02020202);
            sum += x.fits() + x.ask();
            x.feed(0, 0, 0, 0, 0);
            x.end(2);
            sum += x.fix();
            // 'not ( out or fixed )'
            x.feed(0x6e6f7420, 0x28206f75, 0x74206f72, 0x20666978, 0x65642029);
            sum += x.sentence() + x.said(-1);
            // 'second 60;haze 3;   '
            x.feed(0x7365636f, 0x6e642036, 0x303b6861, 0x7a652033, 0x3b202020);
            sum += x.book(0) + x.told(2);
            x.feed(0x7365636f, 0x6e642036, 0x303b6861, 0x7a652033, 0x3b202020);
            sum += x.chart() + x.fault();
        }
        return sum;
    }
}
