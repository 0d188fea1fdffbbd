import java.util.Random;

/** Each number of each call at every edge that the document names, in many states: as the plain model answers. */
public final class EdgesTest {
    private static final int LOW = Integer.MIN_VALUE;
    private static final int HIGH = Integer.MAX_VALUE;
    private static final int[] EDGES = {LOW, LOW + 1, -1000, -1000 * 1000, -65536, -3, -2, -1, 0, 1, 2, 3, 4, 5, 6, 7, 8, 9, 10, 11, 12, 13, 14, 15, 19, 20, 21,
        23, 24, 25, 29, 30, 31, 32, 33, 59, 60, 61, 62, 63, 64, 65, 98, 99, 100, 101, 127, 128, 198, 199, 200, 201, 255, 256, 699, 700, 701, 998, 999, 1000, 1001,
        8999, 9000, 9001, 9998, 9999, 10000, 65535, 65536, 99999, 100000, 1 << 25, 1 << 30, HIGH - 1, HIGH};
    /** How many numbers each call takes, by the numbers of Twins. */
    private static final int[] NUMBERS = {0, 5, 1, 1, 2, 2, 2, 1, 3, 1, 1, 3, 1, 3, 1, 1, 2, 4, 2, 3, 3, 3, 4, 0, 2, 2, 1, 0, 0, 2, 1, 1, 0, 4, 1, 1, 1, 2, 3, 3, 0, 0, 0, 1};
    private static final String[] TEXTS = {
        "",
        "kind a 9 1;",
        "house a 9 1 1;",
        "kind a 0 0;house a 0 0 0;term 1;",
        "kind a 99 99;house a 999 9 99;term 99;seed 99999;law use 99;law price 0-999;work a a;day 0 a;day 99 a;",
        "kind s 10 5;kind r 4 3;kind m 0 1;house a 50 3 10;house b 20 6 5;house c 0 0 0;day 0 r;day 3 m;work a r;work b s;work a s;term 5;",
        "kind a 9 0;kind b 8 0;house a 99 1 1;house b 98 9 0;day 1 b;work b a;law look date/2*2=date;",
        "kind a 1 1;kind b 2 2;kind c 3 3;kind d 4 4;kind e 5 5;kind f 6 6;house a 999 1 1;house b 998 2 2;house c 997 3 3;house d 99 4 4;house e 9 5 5;"
            + "house f 0 6 6;work a a;work b b;work c c;work d d;work e e;work f f;day 0 a;day 1 b;day 2 c;day 3 d;day 4 e;day 5 f;term 2;law look 1;law use used;"
            + "law price 1/0;"};

    private final Random random;
    private final Twins twins = new Twins();

    private EdgesTest(long seed) {
        random = new Random(seed);
    }

    public static void main(String[] args) {
        int wrong = 0;
        long calls = 0;
        for (int text = 0; text < TEXTS.length; text++) {
            for (int which = 1; which <= Twins.CALLS && wrong < 5; which++) {
                EdgesTest test = new EdgesTest(text * 100 + which);
                String bad = test.sweep(TEXTS[text], which);
                calls += test.twins.seen[which];
                if (bad != null) {
                    wrong++;
                    System.out.println("text " + text + ": " + bad);
                    System.out.println(test.twins.trail);
                }
            }
        }
        System.out.println("edges: " + calls + " calls, " + (wrong == 0 ? "all answers are as due" : wrong + " sweeps are wrong"));
        if (wrong != 0) {
            System.exit(1);
        }
    }

    private String sweep(String text, int which) {
        String bad = twins.feed(text);
        if (bad == null) {
            bad = twins.call(2, text.length(), 0, 0, 0, 0);
        }
        for (int i = 0; bad == null && i < 4; i++) {
            bad = stir(i);
            bad = bad == null ? sweepOnce(which) : bad;
        }
        return bad == null ? look() : bad;
    }

    /** Some DAYS, blinds, NOTES, so that not all is as at first. */
    private String stir(int i) {
        int[][] done = {
            {}, {9, 0, 0, 0}, {10, 0, 0, 0}, {33, 1, 0, 9, 0}, {33, 99, 1, 0, 1}, {41, 0, 0, 0}, {12, 3, 0, 0}, {11, 0, 1, 5}, {34, 0, 0, 0}, {12, 97, 0, 0}};
        for (int k = i == 0 ? 0 : i * 3 - 2; k < i * 3 + 1; k++) {
            if (done[k].length > 0) {
                int[] d = done[k];
                String bad = twins.call(d[0], d[1], d[2], d[3], d.length > 4 ? d[4] : 0, 0);
                if (bad != null) {
                    return bad;
                }
            }
        }
        return null;
    }

    private String sweepOnce(int which) {
        int numbers = NUMBERS[which];
        for (int place = 0; place < Math.max(1, numbers); place++) {
            for (int edge : EDGES) {
                int[] v = new int[5];
                for (int k = 0; k < numbers; k++) {
                    v[k] = random.nextInt(4) > 0 ? random.nextInt(3) : EDGES[random.nextInt(EDGES.length)];
                }
                if (numbers > 0) {
                    v[place] = edge;
                }
                String bad = twins.call(which, v[0], v[1], v[2], v[3], v[4]);
                if (bad != null) {
                    return bad;
                }
            }
        }
        return look();
    }

    /** What the calls left behind. */
    private String look() {
        String bad = null;
        for (int what = 0; bad == null && what < 13; what++) {
            bad = twins.call(43, what, 0, 0, 0, 0);
        }
        for (int house = 0; bad == null && house < 7; house++) {
            for (int what = 0; bad == null && what < 7; what++) {
                bad = twins.call(5, house, what, 0, 0, 0);
            }
        }
        for (int n = 0; bad == null && n < 5; n++) {
            bad = twins.call(7, n, 0, 0, 0, 0);
        }
        for (int day = 0; bad == null && day < 100; day += 33) {
            bad = twins.call(36, day, 0, 0, 0, 0);
        }
        return bad;
    }
}
