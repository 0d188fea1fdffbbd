import java.lang.management.ManagementFactory;

/** All calls of a run live in one room: the calls make nothing, whatever they are asked. */
public final class RoomTest {
    private static final int OBJECTS = 200;
    private static final long MOST_BYTES_OF_ONE = 10000;
    private static final String TEXT = "kind a 9 9;kind b 8 8;kind c 7 9;kind d 6 6;kind e 5 5;kind f 99 1;"
        + "house a 999 9 9;house b 888 8 8;house c 777 7 7;house d 666 6 6;house e 555 5 5;house f 99 1 99;"
        + "work a a;work b b;work c c;work d d;work e a;work f a;term 7;seed 7;"
        + "law look not (date / 5 * 5 = date);law use eager + (purse > 100) - 1;law price worth * used / 9 - bill / 3;";

    public static void main(String[] args) {
        com.sun.management.ThreadMXBean bean = (com.sun.management.ThreadMXBean) ManagementFactory.getThreadMXBean();
        long thread = Thread.currentThread().getId();
        calls(new SunBills());
        long start = bean.getThreadAllocatedBytes(thread);
        SunBills[] made = new SunBills[OBJECTS];
        for (int i = 0; i < OBJECTS; i++) {
            made[i] = new SunBills();
        }
        long built = bean.getThreadAllocatedBytes(thread);
        for (SunBills x : made) {
            calls(x);
        }
        long called = bean.getThreadAllocatedBytes(thread);
        boolean small = (built - start) / OBJECTS <= MOST_BYTES_OF_ONE;
        boolean none = (called - built) / OBJECTS < 100;
        System.out.println("room: " + (built - start) / OBJECTS + " bytes an object, " + (called - built) / OBJECTS + " for its calls");
        if (!small || !none) {
            System.exit(1);
        }
    }

    private static void feed(SunBills x) {
        for (int i = 0; i < TEXT.length(); i += 20) {
            x.feed(four(i), four(i + 4), four(i + 8), four(i + 12), four(i + 16));
        }
        if (x.text(TEXT.length()) != 23) {
            System.out.println("room: the text has fault " + x.fault(0) + " at " + x.fault(1));
            System.exit(1);
        }
    }

    private static int four(int at) {
        int v = 0;
        for (int i = at; i < at + 4; i++) {
            v = v << 8 | (i < TEXT.length() ? TEXT.charAt(i) : ' ');
        }
        return v;
    }

    private static void calls(SunBills x) {
        feed(x);
        feed(x);
        for (int i = 0; i < 3; i++) {
            int h = i * 2;
            x.named(0, 1 << 25);
            x.house(h, 0);
            x.kind(h, 2);
            x.weather(200);
            x.law(2, h, h);
            x.blind(h);
            x.send(h);
            x.lend(h, 1, 1);
            x.keep();
            x.undo();
            x.go(100);
            x.back();
            for (int what = 0; what < 5; what++) {
                x.ahead(200, what, h);
                x.tried(what, 0, 200);
            }
            x.sold(h);
            x.credit(h);
            x.owes(h);
            x.plan(8, 7);
            x.share(63, h, 5, 0);
            x.waits(6, 0);
            x.came(h, 5, 100);
            x.likely(h, 5, 0);
            x.rests(h, 1, 0);
            x.rest(h, 1, 0, 0);
            x.richest();
            x.leave(63, 0);
            x.blinds(60, 0);
            x.among(2000);
            x.rescue();
            x.termIn();
            x.often(h, 200);
            x.have(63);
            x.dearest();
            x.note(1, h, 50, true);
            x.strike(0);
            x.known(-1);
            x.fits(1);
            x.ask(1, 0);
            x.chance(77, 99, h);
            x.count(11);
        }
    }
}
