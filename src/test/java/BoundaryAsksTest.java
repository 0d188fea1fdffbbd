import java.math.BigInteger;

/** Sentences with a boundary case: of what can be asked, and of promises 14 to 40 and 44. */
public final class BoundaryAsksTest extends Checks {
    private static final String ODDS = "kind a 9 2;kind b 5 3;kind c 0 1;kind d 7 0;house g 5 1 0;house h 5 4 0;house i 5 9 0;";

    public static void main(String[] args) {
        aheadMore();
        ahead();
        soldIn();
        sold();
        creditNever();
        credit();
        planDays();
        planWhoever();
        planNone();
        planMany();
        planLeast();
        planFirst();
        plan();
        shareMost();
        share();
        shareNone();
        waitsDays();
        waitsNone();
        waits();
        cameDays();
        cameRows();
        came();
        likelyDays();
        likelyOnce();
        likely();
        bothLook();
        oneLooks();
        bothDraw();
        views();
        rests();
        rest();
        richestFirst();
        richest();
        leaveLess();
        leave();
        blindsDays();
        blindsFew();
        blinds();
        amongFew();
        among();
        rescueTerm();
        rescueNot();
        rescue();
        termIn();
        often();
        owes();
        have();
        dearest();
        notes();
        noted();
        note();
        strikes();
        strike();
        knownBy();
        known();
        fitting();
        fits();
        asking();
        ask();
        chance();
        chanceNone();
        tries();
        tried();
        counts();
        count();
        end("boundaries of what is asked");
    }

    // ---- what comes

    private static void aheadMore() {
        says("how many are SOLD UP then, how many LOOKED more (each DAY by each HOUSE).");
        SunBills x = made("kind a 10 1;house g 5 1 0;house h 25 1 0;house i 0 0 0;term 1;");
        is("of none", x.ahead(0, 4, 0), 0);
        is("one day: all three", x.ahead(1, 4, 0), 3);
        is("g is sold up, two more", x.ahead(2, 4, 0), 5);
        is("three days", x.ahead(3, 4, 0), 7);
        is("h is, too", x.ahead(4, 4, 0), 8);
        is("sold up now", x.ahead(0, 3, 0), 0);
        is("in one day", x.ahead(1, 3, 0), 1);
        is("in two", x.ahead(2, 3, 0), 1);
        is("in three", x.ahead(3, 3, 0), 2);
        x.go(1);
        is("only those more", x.ahead(1, 4, 0), 2);
        is("of none", x.ahead(0, 4, 0), 0);
        is("those sold up now with", x.ahead(0, 3, 0), 1);
        x.blind(2);
        is("not by a blind that is down", x.ahead(1, 4, 0), 1);
        is("no houses", new SunBills().ahead(200, 4, 0), 0);
    }

    private static void ahead() {
        says("AHEAD (n 0 .. 200), what 0 PURSE, 1 BILL, 2 USED of a HOUSE, 3 SOLD UP, 4 LOOKED (of 3, 4 the HOUSE isn't looked at). "
            + "Integer.MIN_VALUE: no such ones.");
        for (int what = 0; what < 5; what++) {
            int asked = what;
            bounds(TOWN, "n of what " + what, 0, 200, LOW, (x, v) -> x.ahead(v, asked, 0));
            if (what < 3) {
                bounds(TOWN, "house of what " + what, 0, 2, LOW, (x, v) -> x.ahead(1, asked, v));
            } else {
                for (int house : new int[] {LOW, -1, 0, 2, 3, HIGH}) {
                    is("house " + house + " of what " + what, made(TOWN).ahead(5, asked, house), what == 3 ? 2 : 15);
                }
            }
        }
        bounds(TOWN, "what", 0, 4, LOW, (x, v) -> x.ahead(1, v, 0));
        SunBills x = made(TOWN);
        is("0 days: purse", x.ahead(0, 0, 0), 50);
        is("0 days: bill", x.ahead(0, 1, 0), 0);
        is("0 days: used", x.ahead(0, 2, 0), 0);
        refused(x, "nothing goes by", () -> x.ahead(200, 0, 0), -42);
    }

    private static String lasting(int purse, int term) {
        return "kind a 1 1;house h " + purse + " 1 0;term " + term + ";";
    }

    private static void soldIn() {
        says("in how many DAYS as it goes, 199 at most, it is SOLD UP (0: it is).");
        is("in 1", made(lasting(0, 1)).sold(0), 1);
        is("in 2", made(lasting(1, 1)).sold(0), 2);
        is("in 198", made(lasting(197, 1)).sold(0), 198);
        is("in 199", made(lasting(198, 1)).sold(0), 199);
        is("in 200", made(lasting(199, 1)).sold(0), -2);
        SunBills x = made(lasting(199, 1));
        x.go(1);
        is("a day later in 199", x.sold(0), 199);
        x.go(198);
        is("in 1", x.sold(0), 1);
        x.go(1);
        is("it is", x.sold(0), 0);
        x.go(1);
        is("it stays", x.sold(0), 0);
    }

    private static void sold() {
        says("SOLD; -2: not by then; NONE: no such HOUSE.");
        bounds(TOWN, "sold", 0, 2, -1, SunBills::sold);
        bounds(SIX_HOUSES, "sold", 0, 5, -1, SunBills::sold);
        is("no houses", new SunBills().sold(0), -1);
        is("never", made(TOWN).sold(2), -2);
        SunBills x = made(TOWN);
        x.blind(0);
        is("behind a blind", x.sold(0), -2);
        is("by the last day of a term", x.sold(1), 5);
        refused(x, "nothing goes by", () -> x.sold(1), 5);
    }

    private static void creditNever() {
        says("CREDIT of a HOUSE likewise its BILL is below 0 (of one SOLD UP never).");
        is("in 1", made("kind a 1 1;house h 0 0 0;law price 0-1;").credit(0), 1);
        is("a bill of 0 isn't", made("kind a 1 1;house h 0 0 0;law price 0;").credit(0), -2);
        is("in 199", made("kind a 1 1;house h 0 0 0;law price 0-(date=198);term 99;").credit(0), 199);
        is("in 200", made("kind a 1 1;house h 0 0 0;law price 0-(date=199);term 99;").credit(0), -2);
        is("paid at once", made("kind a 1 1;house h 0 0 0;law price 0-1;term 1;").credit(0), -2);
        SunBills x = made("kind a 1 1;house h 0 0 0;law price 1-(date>0)*9;term 1;");
        x.go(1);
        is("sold up", x.house(0, 5), 1);
        is("never", x.credit(0), -2);
        // Sold up on the way, ahead of what would have been below 0.
        is("sold up on the way", made("kind a 1 1;house h 0 0 0;law price 1-(date>0)*9;term 1;").credit(0), -2);
        is("one with the purse", made("kind a 1 1;house h 9 0 0;law price 1-(date>1)*9;term 2;").credit(0), 3);
    }

    private static void credit() {
        says("CREDIT (0: it is); -2: not by then; NONE: no such HOUSE.");
        bounds(TOWN, "credit", 0, 2, -1, SunBills::credit);
        is("no houses", new SunBills().credit(0), -1);
        SunBills x = made("kind a 1 1;house h 0 0 0;law price 0-1;");
        x.go(1);
        is("it is", x.credit(0), 0);
        refused(x, "nothing goes by", () -> x.credit(0), 0);
        is("not by then", made(TOWN).credit(1), -2);
    }

    // ---- PLAN

    private static void planDays() {
        says("PLAN for n DAYS (0 .. 8) as it goes");
        bounds(TOWN, "plan", 0, 8, -1, (x, v) -> x.plan(v, 6));
        String six = "kind k 1 1;kind l 1 0;house h 1 1 1;" + times(6, "work h k;");
        for (int n = 0; n <= 8; n++) {
            is(n + " days", made(six).plan(n, 6), Math.min(n, 6));
            // only the last DAY is of the KIND wanted
            if (n > 0) {
                SunBills x = made("kind k 1 1;kind l 1 0;house h 1 1 1;work h l;day " + (n - 1) + " l;");
                is("the last of " + n, x.plan(n, 0), n - 1);
                is("not among " + (n - 1), x.plan(n - 1, 0), -2);
            }
        }
        SunBills x = made(six);
        x.go(3);
        is("from this day on", x.plan(2, 1), 1);
    }

    private static void planWhoever() {
        says("for each WORK (whoever is SOLD UP, whatever blind is down)");
        SunBills x = made("kind k 5 1;house h 0 1 1;work h k;term 1;");
        x.blind(0);
        is("a blind is down", x.plan(1, 0), 0);
        x.blind(0);
        x.go(1);
        is("sold up", x.house(0, 5), 1);
        is("laid", x.plan(1, 0), 0);
        is("its sum", x.plan(1, 7), 5);
    }

    private static void planNone() {
        says("one of these DAYS (0: this one), of which the KIND is the one wanted, or none, none for two");
        SunBills x = made("kind k 5 1;kind l 1 0;house h 0 1 1;work h k;work h k;work h l;");
        is("this one", x.plan(1, 0), 0);
        is("none for two", x.plan(1, 1), -2);
        is("the next one", x.plan(2, 1), 1);
        is("no day of that kind", x.plan(8, 2), -2);
        x.send(1);
        is("sent: not this one", x.plan(2, 0), 1);
        is("sent: this one", x.plan(2, 2), 0);
        SunBills y = made("kind k 5 0;house h 0 1 1;work h k;");
        is("no weather", y.plan(8, 6), 0);
        y.send(0);
        is("but what is sent", y.plan(8, 6), 1);
    }

    private static void planMany() {
        says("so that as many as may be have one");
        // Two dear ones count more than one for nothing.
        SunBills x = made("kind k 99 1;kind l 0 0;house h 0 9 1;house i 0 0 1;day 1 l;work i l;work h k;work h k;work i k;");
        is("three days k l k: three", x.plan(3, 6), 3);
        is("of k the one for nothing first", x.plan(3, 7), 891);
        is("i has it", x.plan(3, 3), 2);
        is("four days: all", x.plan(4, 6), 4);
        is("the sum", x.plan(4, 7), 1782);
        SunBills y = made("kind k 99 1;house h 0 9 1;" + times(6, "work h k;"));
        is("six of the dearest", y.plan(8, 6), 6);
        is("the most that it may come to", y.plan(8, 7), 6 * 891);
        is("none of none", y.plan(0, 6), 0);
        is("for nothing", y.plan(0, 7), 0);
    }

    private static void planLeast() {
        says("then so that WORTH of these KINDS times EAGER of its HOUSE, in sum, is least");
        SunBills x = made("kind k 3 1;house g 0 5 0;house h 0 2 0;house i 0 4 0;work g k;work h k;work i k;");
        is("one day: h", x.plan(1, 7), 6);
        is("g none", x.plan(1, 0), -2);
        is("h", x.plan(1, 1), 0);
        is("two days: h, i", x.plan(2, 7), 18);
        is("g none", x.plan(2, 0), -2);
        is("i", x.plan(2, 2), 1);
        is("three days", x.plan(3, 7), 33);
    }

    private static void planFirst() {
        says("of several the first by WORKS (DAYS in order, none is last)");
        SunBills x = made("kind k 3 1;house g 0 5 0;house h 0 5 0;work h k;work g k;work h k;");
        is("one day: the first work", x.plan(1, 0), 0);
        is("not the second", x.plan(1, 1), -2);
        is("two days", x.plan(2, 0) * 10 + x.plan(2, 1), 1);
        is("none is last", x.plan(2, 2), -2);
        // KINDS worth nothing: alike in all, each work takes the first day that is free.
        SunBills y = made("kind k 0 1;kind l 0 0;house g 0 5 0;house h 0 1 0;day 1 l;work g l;work h k;work g k;work h k;");
        is("l on day 1", y.plan(4, 0), 1);
        is("k on day 0", y.plan(4, 1), 0);
        is("k on day 2", y.plan(4, 2), 2);
        is("k on day 3", y.plan(4, 3), 3);
        is("two days: the first of k", y.plan(2, 1), 0);
        is("two days: not the others", y.plan(2, 2), -2);
        is("two days: not the others", y.plan(2, 3), -2);
    }

    private static void plan() {
        says("PLAN, what 0 .. 5: the DAY of that WORK (-2: none, there are not so many), 6: how many have one, 7: the sum. NONE: no such ones.");
        bounds(TOWN, "what", 0, 7, -1, (x, v) -> x.plan(3, v));
        SunBills x = made(TOWN);
        for (int what = 3; what < 6; what++) {
            is("there are three works", x.plan(8, what), -2);
        }
        for (int what = 0; what < 6; what++) {
            is("no works", new SunBills().plan(8, what), -2);
        }
        is("no works", new SunBills().plan(8, 6), 0);
        is("no works", new SunBills().plan(8, 7), 0);
        is("wrong in both", x.plan(9, 8), -1);
        refused(x, "nothing goes by", () -> x.plan(3, 7), 102);
    }

    // ---- SHARE, WAIT, CAME, LIKELY

    private static void isFraction(String call, long above, long below, long dueAbove, long dueBelow) {
        is(call + ", above", above, dueAbove);
        is(call + ", below", below, dueBelow);
    }

    private static void shareMost() {
        says("some together the most of these; over all orders in which they come, how much more the most is by it, on average, as a fraction.");
        // 9, 36, 81: of two the lesser half its own; of three 9/3, 9/3 + 27/2, 9/3 + 27/2 + 45
        SunBills x = made(ODDS);
        isFraction("one alone", x.share(4, 2, 0, 0), x.share(4, 2, 0, 1), 81, 1);
        isFraction("the lesser of two", x.share(3, 0, 0, 0), x.share(3, 0, 0, 1), 9, 2);
        isFraction("the greater of two", x.share(3, 1, 0, 0), x.share(3, 1, 0, 1), 63, 2);
        isFraction("the least of three", x.share(7, 0, 0, 0), x.share(7, 0, 0, 1), 3, 1);
        isFraction("the middle one", x.share(7, 1, 0, 0), x.share(7, 1, 0, 1), 33, 2);
        isFraction("the greatest", x.share(7, 2, 0, 0), x.share(7, 2, 0, 1), 123, 2);
        SunBills y = made("kind k 99 1;" + SIX_HOUSES.replace(" 1 1 1;", " 1 9 1;"));
        isFraction("six alike", y.share(63, 5, 0, 0), y.share(63, 5, 0, 1), 297, 2);
        isFraction("five alike", y.share(31, 4, 0, 0), y.share(31, 4, 0, 1), 891, 5);
    }

    private static void share() {
        says("SHARE (0 of one that isn't among them; 0 is 0 and 1) in least terms");
        SunBills x = made(ODDS + "house j 5 0 0;");
        isFraction("not among them", x.share(6, 0, 0, 0), x.share(6, 0, 0, 1), 0, 1);
        isFraction("among none", x.share(0, 0, 0, 0), x.share(0, 0, 0, 1), 0, 1);
        isFraction("worth 0", x.share(7, 2, 2, 0), x.share(7, 2, 2, 1), 0, 1);
        isFraction("eager 0", x.share(15, 3, 0, 0), x.share(15, 3, 0, 1), 0, 1);
        isFraction("whole", x.share(3, 0, 3, 0) * 2, x.share(3, 0, 3, 1), 14, 2);
        // weight is not looked at: d has none
        isFraction("of no weight", x.share(2, 1, 3, 0), x.share(2, 1, 3, 1), 28, 1);
    }

    private static void shareNone() {
        says("NONE: no such ones (houses: bits, none is one, too).");
        bounds(ODDS, "houses", 0, 7, -1, (x, v) -> x.share(v, 0, 0, 0));
        bounds(ODDS, "house", 0, 2, -1, (x, v) -> x.share(7, v, 0, 0));
        bounds(ODDS, "house not among them", 0, 2, -1, (x, v) -> x.share(0, v, 0, 0));
        bounds(ODDS, "kind", 0, 3, -1, (x, v) -> x.share(7, 0, v, 0));
        bounds(ODDS, "what", 0, 1, -1, (x, v) -> x.share(7, 0, 0, v));
        bounds(SIX_HOUSES + "kind a 1 1;", "houses of six", 0, 63, -1, (x, v) -> x.share(v, 0, 0, 0));
        is("no houses", made("kind a 1 1;").share(0, 0, 0, 0), -1);
        is("no kinds", made(SIX_HOUSES).share(1, 0, 0, 0), -1);
    }

    private static void waitsDays() {
        says("WAIT for n DAYS (0 .. 6)");
        SunBills x = made("kind a 4 1;kind b 0 1;");
        // Of a DAY 2; of n DAYS half of 4 and half of what n less 1 are worth: 4 less 4 by 2 to the n.
        for (int n = 0; n <= 6; n++) {
            is(n + " days, below by above", 4 * x.waits(n, 1) * ((1 << n) - 1), x.waits(n, 0) << n);
        }
        for (int n : new int[] {LOW, -1, 7, 8, HIGH}) {
            is(n + " days", x.waits(n, 0), -1);
            is(n + " days, below", x.waits(n, 1), -1);
        }
    }

    private static void waitsNone() {
        says("of 0 DAYS 0; else of each KIND by its WEIGHT WORTH or what n less 1 DAYS are worth, whichever is more (0, if all have WEIGHT 0).");
        SunBills x = made(ODDS);
        isFraction("0 days", x.waits(0, 0), x.waits(0, 1), 0, 1);
        // one day: (18 + 15 + 0) / 6 = 11/2; two: 9 twice, 11/2 four times: (18 + 22) / 6
        isFraction("1 day", x.waits(1, 0), x.waits(1, 1), 11, 2);
        isFraction("2 days", x.waits(2, 0), x.waits(2, 1), 20, 3);
        isFraction("no weights", made("kind a 9 0;kind b 8 0;").waits(6, 0), made("kind a 9 0;").waits(6, 1), 0, 1);
        isFraction("no kinds", new SunBills().waits(6, 0), new SunBills().waits(6, 1), 0, 1);
        isFraction("weight 1 in all", made("kind a 9 1;").waits(6, 0), made("kind a 9 1;").waits(6, 1), 9, 1);
        isFraction("worth 0", made("kind a 0 9;").waits(6, 0), made("kind a 0 9;").waits(6, 1), 0, 1);
        isFraction("just as much", made("kind a 9 5;kind b 9 2;").waits(6, 0), made("kind a 9 5;kind b 9 2;").waits(6, 1), 9, 1);
    }

    private static void waits() {
        says("WAIT in least terms, what 0: the number above, 1: the one below. NONE: no such ones.");
        bounds(ODDS, "n", 0, 6, -1, (x, v) -> x.waits(v, 0));
        bounds(ODDS, "what", 0, 1, -1, (x, v) -> x.waits(1, v));
        is("wrong in both", made(ODDS).waits(7, 2), -1);
        // The greatest that can be below: 593 to the 6, which is prime to what is above.
        SunBills x = made("kind a 98 99;kind b 97 99;kind c 96 99;kind d 95 99;kind e 94 99;kind f 99 98;");
        BigInteger above = BigInteger.ZERO;
        BigInteger below = BigInteger.ONE;
        int[] worth = {98, 97, 96, 95, 94, 99};
        int[] weight = {99, 99, 99, 99, 99, 98};
        for (int n = 0; n <= 6; n++) {
            BigInteger common = above.gcd(below);
            isFraction(n + " days", x.waits(n, 0), x.waits(n, 1), above.divide(common).longValueExact(), below.divide(common).longValueExact());
            BigInteger sum = BigInteger.ZERO;
            for (int k = 0; k < 6; k++) {
                sum = sum.add(below.multiply(BigInteger.valueOf(worth[k])).max(above).multiply(BigInteger.valueOf(weight[k])));
            }
            above = sum;
            below = below.multiply(BigInteger.valueOf(593));
        }
    }

    private static void cameDays() {
        says("CAME of a HOUSE for n DAYS (0 .. 5) and a sum");
        SunBills x = made("kind a 0 1;kind b 0 1;house h 0 1 0;");
        for (int n = 0; n <= 5; n++) {
            is(n + " days", x.came(0, n, 0), 1 << n);
        }
        for (int n : new int[] {LOW, -1, 6, 7, HIGH}) {
            is(n + " days", x.came(0, n, 0), -1);
        }
    }

    private static void cameRows() {
        says("in how many rows of n KINDS (of whatever WEIGHT, one may come again) these, WORTH times EAGER each, come to it.");
        SunBills x = made(ODDS);
        is("nothing of no days", x.came(0, 0, 0), 1);
        is("something of no days", x.came(0, 0, 1), 0);
        is("7 of weight 0", x.came(0, 1, 7), 1);
        is("again", x.came(0, 5, 45), 1);
        is("in both orders", x.came(0, 2, 16), 2);
        is("eager 4", x.came(1, 2, 64), 2);
        is("not eager 1", x.came(1, 2, 16), 0);
        is("all of them", made("kind a 9 1;kind b 8 1;house h 5 0 0;").came(0, 5, 0), 32);
        is("six to the 5", made(SIX_KINDS + "house h 0 9 0;").came(0, 5, 45), 7776);
        is("the most", made("kind a 99 0;house h 0 9 0;").came(0, 5, 4455), 1);
        is("no kinds", made("house h 0 9 0;").came(0, 1, 0), 0);
        is("no kinds, no days", made("house h 0 9 0;").came(0, 0, 0), 1);
    }

    private static void came() {
        says("CAME (sum 0 .. 9999); NONE: no such ones.");
        bounds(ODDS, "house", 0, 2, -1, (x, v) -> x.came(v, 1, 0));
        bounds(ODDS, "n", 0, 5, -1, (x, v) -> x.came(0, v, 0));
        bounds(ODDS, "sum", 0, 9999, -1, (x, v) -> x.came(0, 5, v));
        is("no houses", made("kind a 1 1;").came(0, 0, 0), -1);
    }

    private static void likelyDays() {
        says("LIKELY for n DAYS (0 .. 5)");
        SunBills x = made("kind a 0 1;kind b 0 1;");
        for (int n = 0; n <= 5; n++) {
            isFraction(n + " days", x.likely(1, n, 0), x.likely(1, n, 1), (1 << n) - 1, 1 << n);
        }
        for (int n : new int[] {LOW, -1, 6, 7, HIGH}) {
            is(n + " days", x.likely(1, n, 0), -1);
        }
    }

    private static void likelyOnce() {
        says("how likely, by WEIGHTS, a KIND comes at least once, as a fraction.");
        SunBills x = made(ODDS);
        isFraction("in 0 days", x.likely(0, 0, 0), x.likely(0, 0, 1), 0, 1);
        isFraction("in 1", x.likely(0, 1, 0), x.likely(0, 1, 1), 1, 3);
        isFraction("in 2", x.likely(0, 2, 0), x.likely(0, 2, 1), 5, 9);
        isFraction("never", x.likely(3, 5, 0), x.likely(3, 5, 1), 0, 1);
        SunBills y = made("kind a 1 99;");
        isFraction("surely", y.likely(0, 5, 0), y.likely(0, 5, 1), 1, 1);
        isFraction("in 0 days", y.likely(0, 0, 0), y.likely(0, 0, 1), 0, 1);
        SunBills z = made("kind a 1 99;kind b 1 99;kind c 1 99;kind d 1 99;kind e 1 99;kind f 1 98;");
        long all = 593L * 593 * 593 * 593 * 593;
        isFraction("the greatest", z.likely(5, 5, 0), z.likely(5, 5, 1), all - 495L * 495 * 495 * 495 * 495, all);
    }

    private static void likely() {
        says("LIKELY in least terms, what 0: the number above, 1: the one below (0 and 1, if all WEIGHTS are 0). NONE: no such ones.");
        bounds(ODDS, "kind", 0, 3, -1, (x, v) -> x.likely(v, 1, 0));
        bounds(ODDS, "n", 0, 5, -1, (x, v) -> x.likely(0, v, 0));
        bounds(ODDS, "what", 0, 1, -1, (x, v) -> x.likely(0, 1, v));
        SunBills x = made("kind a 1 0;kind b 1 0;");
        isFraction("weight 1 in all", made("kind a 1 1;").likely(0, 5, 0), made("kind a 1 1;").likely(0, 5, 1), 1, 1);
        SunBills y = made(ODDS);
        y.waits(6, 0);
        read(y, "kind a 1 0;kind b 1 0;");
        isFraction("no weights, whatever was asked ahead", y.likely(0, 2, 0), y.likely(0, 2, 1), 0, 1);
        for (int n = 0; n <= 5; n++) {
            isFraction("no weights, " + n + " days", x.likely(1, n, 0), x.likely(1, n, 1), 0, 1);
        }
        is("no kinds", new SunBills().likely(0, 0, 0), -1);
    }

    // ---- VIEW

    private static String restsOf(int one, int other, int worth) {
        SunBills x = made("kind k " + worth + " 1;house g 0 " + one + " 0;house h 0 " + other + " 0;");
        StringBuilder all = new StringBuilder();
        for (int k = 0; k < x.rests(0, 1, 0); k++) {
            all.append(x.rest(0, 1, 0, k)).append(' ');
        }
        is("no more of " + one + ", " + other + ", " + worth, x.rest(0, 1, 0, x.rests(0, 1, 0)), -2);
        return all.toString();
    }

    private static void bothLook() {
        says("both look: each has EAGER and a tenth of WORTH, cut, less 2");
        // Beside one of EAGER 9, who always looks: looking has 1 + a tenth - 2, drawing 1.
        same("19: 0 is less than 1", restsOf(1, 9, 19), "10 ");
        same("20: as much", restsOf(1, 9, 20), "0 10 ");
        same("29: as much", restsOf(1, 9, 29), "0 10 ");
        same("30: more", restsOf(1, 9, 30), "0 ");
        same("9: 3 - 2 is 1", restsOf(3, 9, 9), "0 10 ");
        same("10: more", restsOf(3, 9, 10), "0 ");
        same("the second one alike", restsOf(9, 1, 19), "1 ");
        same("the second one alike", restsOf(9, 1, 20), "0 1 ");
        same("the second one alike", restsOf(9, 1, 30), "0 ");
    }

    private static void oneLooks() {
        says("one looks alone: it has EAGER and a fifth of WORTH, cut, less 3, the other one 1");
        // Beside one of EAGER 0, who draws it at these: looking has EAGER + a fifth - 3, drawing half of EAGER.
        same("eager 4, worth 4: 1 is less than 2", restsOf(4, 0, 4), "11 ");
        same("eager 4, worth 5: as much", restsOf(4, 0, 5), "1 11 ");
        same("eager 4, worth 9: as much", restsOf(4, 0, 9), "1 11 ");
        same("eager 4, worth 10: more", restsOf(4, 0, 10), "1 ");
        same("the second one alike", restsOf(0, 4, 4), "11 ");
        same("the second one alike", restsOf(0, 4, 5), "10 11 ");
        same("the second one alike", restsOf(0, 4, 10), "10 ");
    }

    private static void bothDraw() {
        says("both draw it: each half its EAGER, cut.");
        // Eager 5, worth 0: alone 2, half of 5 cut 2: as much; eager 6: 3 and 3; eager 7: 4 and 3.
        same("eager 4", restsOf(4, 0, 0), "11 ");
        same("eager 5", restsOf(5, 0, 0), "1 11 ");
        same("eager 6", restsOf(6, 0, 0), "1 11 ");
        same("eager 7", restsOf(7, 0, 0), "1 ");
        same("eager 0 and 0", restsOf(0, 0, 0), "11 ");
    }

    private static void views() {
        says("A REST: neither would have more otherwise. RESTS: by the first one's, then the second one's.");
        // By the words: what looking has beyond drawing, beside one who looks and beside one who draws.
        for (int worth : new int[] {0, 1, 4, 5, 9, 10, 14, 15, 19, 20, 24, 25, 29, 30, 98, 99}) {
            for (int one = 0; one < 10; one++) {
                for (int other = 0; other < 10; other++) {
                    StringBuilder due = new StringBuilder();
                    for (int first = 0; first < 2; first++) {
                        for (int second = 0; second < 2; second++) {
                            int more = has(one, worth, 1 - first, second) - has(one, worth, first, second);
                            int moreOther = has(other, worth, 1 - second, first) - has(other, worth, second, first);
                            due.append(more <= 0 && moreOther <= 0 ? first * 10 + second + " " : "");
                        }
                    }
                    same("eager " + one + ", " + other + ", worth " + worth, restsOf(one, other, worth), due.toString());
                }
            }
        }
        same("all alike", restsOf(2, 2, 14), "0 1 10 11 ");
        same("both of eager 0, worth 0 draw", restsOf(0, 0, 0), "11 ");
        same("tenth cut: 19 is 1", restsOf(1, 9, 19), "10 ");
        same("tenth: 20 is 2", restsOf(1, 9, 20), "0 10 ");
    }

    private static int has(int eager, int worth, int own, int others) {
        int both = own * 10 + others;
        return both == 0 ? eager + worth / 10 - 2 : both == 1 ? eager + worth / 5 - 3 : both == 10 ? 1 : eager / 2;
    }

    private static void rests() {
        says("How many RESTS VIEW has; NONE: no such ones, HOUSES alike.");
        beyond(ODDS, "one", 0, 2, -1, (x, v) -> x.rests(v, 0, 0));
        beyond(ODDS, "other", 0, 2, -1, (x, v) -> x.rests(0, v, 0));
        bounds(ODDS, "kind", 0, 3, -1, (x, v) -> x.rests(0, 1, v));
        SunBills x = made(ODDS);
        for (int house = 0; house < 3; house++) {
            is("alike", x.rests(house, house, 0), -1);
            isNot("not alike", x.rests(house, (house + 1) % 3, 0), -1);
        }
        is("no houses", new SunBills().rests(0, 1, 0), -1);
        is("both none, alike", x.rests(7, 7, 0), -1);
    }

    private static void rest() {
        says("The k-th: ten times the first one's and the second one's; -2: there are no so many; NONE likewise, k is below 0.");
        beyond(ODDS, "one", 0, 2, -1, (x, v) -> x.rest(v, 0, 0, 0));
        beyond(ODDS, "other", 0, 2, -1, (x, v) -> x.rest(0, v, 0, 0));
        bounds(ODDS, "kind", 0, 3, -1, (x, v) -> x.rest(0, 1, v, 0));
        SunBills x = made("kind w 14 1;house a 0 2 0;house b 0 2 0;");
        int[] due = {0, 1, 10, 11, -2, -2};
        for (int k = 0; k < due.length; k++) {
            is("the " + k + "-th", x.rest(0, 1, 0, k), due[k]);
        }
        is("far above", x.rest(0, 1, 0, HIGH), -2);
        is("-1", x.rest(0, 1, 0, -1), -1);
        is("far below", x.rest(0, 1, 0, LOW), -1);
        is("alike", x.rest(0, 0, 0, 0), -1);
        is("alike, k far above", x.rest(1, 1, 0, 99), -1);
        is("no houses", new SunBills().rest(0, 1, 0, 0), -1);
    }

    // ---- who has most, who would leave

    private static void richestFirst() {
        says("RICHEST: the HOUSE, not SOLD UP, whose PURSE less BILL is most, the first of several.");
        is("the first", made("house a 9 1 0;house b 9 1 0;house c 8 1 0;").richest(), 0);
        is("the second", made("house a 8 1 0;house b 9 1 0;house c 9 1 0;").richest(), 1);
        is("the last", made("house a 8 1 0;house b 8 1 0;house c 9 1 0;").richest(), 2);
        is("of 0", made("house a 0 1 0;house b 0 1 0;").richest(), 0);
        SunBills x = made("kind k 9 1;house a 9 1 0;house b 8 9 0;house c 7 2 0;");
        x.go(1);
        is("0, -73, -11", x.richest(), 0);
        x.go(1);
        is("-9, -154, -29", x.richest(), 0);
        SunBills y = made("kind k 9 1;house a 8 1 0;house b 99 9 0;house c 19 2 0;term 2;");
        y.go(1);
        is("-1, 18, 1", y.richest(), 1);
        y.go(1);
        is("all sold up", y.richest(), -2);
        SunBills z = made("kind k 9 1;house a 8 1 0;house b 9 1 0;term 1;");
        z.go(1);
        is("the one not sold up, though at 0", z.richest(), 1);
        SunBills w = made("kind k 1 1;house a 0 0 0;house b 0 0 0;law price (date = 0) - (date > 0) * (eager = 0) * 9;term 1;law look purse >= 0;");
        w.blind(1);
        w.go(1);
        is("a sold up at -1, b at 0", w.richest(), 1);
    }

    private static void richest() {
        says("RICHEST; -2: there is none.");
        is("no houses", new SunBills().richest(), -2);
        SunBills x = made("kind k 9 1;house a 8 1 0;term 1;");
        is("not yet sold up", x.richest(), 0);
        x.go(1);
        is("sold up", x.richest(), -2);
    }

    private static void leaveLess() {
        says("LEAVE of some HOUSES (bits, 1 at least) and a KIND: they pay alike, each the same part of what they would pay together (as for SHARE); "
            + "the least as bits of those among them, some or all, who together would pay less than their parts in sum.");
        SunBills x = made("kind k 1 1;house a 0 4 0;house b 0 8 0;house c 0 3 0;house d 0 9 0;house e 0 0 0;house f 0 4 0;");
        is("a, b: 4 is its part", x.leave(3, 0), -2);
        is("b, c: 3 is less than 4", x.leave(6, 0), 4);
        is("a, d: 4 is less than 4 and a half", x.leave(9, 0), 1);
        is("d, c, a: 3 each, c's is 3; a with c 4 of 6", x.leave(13, 0), 5);
        is("b, a, f: 8/3 each: a and f 4 of 16/3", x.leave(35, 0), 33);
        is("e alone pays 0, its part is 0", x.leave(16, 0), -2);
        is("e with another", x.leave(17, 0), 16);
        is("the least bits", x.leave(63, 0), 16);
        is("all but e: 9/5 each, a and c 4", x.leave(47, 0), 37);
        is("one alone pays its part", x.leave(1, 0), -2);
        is("0 is less than a half", made("kind k 1 1;house a 0 0 0;house b 0 1 0;").leave(3, 0), 1);
        is("the last alone", x.leave(32, 0), -2);
        is("worth 0", made("kind k 0 1;house a 0 4 0;house b 0 8 0;").leave(3, 0), -2);
    }

    private static void leave() {
        says("LEAVE (bits); -2: nobody would; NONE: no such ones.");
        bounds(ODDS, "houses", 1, 7, -1, (x, v) -> x.leave(v, 0));
        bounds(ODDS, "kind", 0, 3, -1, (x, v) -> x.leave(1, v));
        bounds(SIX_HOUSES + "kind a 1 1;", "houses of six", 1, 63, -1, (x, v) -> x.leave(v, 0));
        is("no houses", made("kind a 1 1;").leave(1, 0), -1);
        is("none", made(ODDS).leave(0, 0), -1);
        is("nobody", made(SIX_HOUSES + "kind a 0 1;").leave(63, 0), -2);
    }

    // ---- BLINDS, AMONG, RESCUE

    private static void blindsDays() {
        says("BLINDS for n DAYS (0 .. 60) as it goes");
        is("the 60th day counts", made(lasting(59, 1)).blinds(60, 0), 1);
        is("the 61st doesn't", made(lasting(60, 1)).blinds(60, 0), 0);
        is("59 days", made(lasting(59, 1)).blinds(59, 0), 0);
        is("a term on the last day", made(lasting(29, 30)).blinds(30, 0), 1);
        is("a term behind it", made(lasting(29, 30)).blinds(29, 0), 0);
        for (int n : new int[] {LOW, -1, 61, 62, HIGH}) {
            is(n + " days", made(TOWN).blinds(n, 0), -1);
            is(n + " days, what 1", made(TOWN).blinds(n, 1), -1);
        }
        // By sent and told DAYS, too.
        SunBills x = made("kind a 1 1;kind b 99 0;house h 50 1 0;day 1 b;term 1;");
        is("day 0", x.blinds(1, 0), 0);
        is("day 1 is told", x.blinds(2, 0), 1);
        x.send(1);
        is("day 0 is sent", x.blinds(1, 0), 1);
    }

    private static void blindsFew() {
        says("of the HOUSES those (bits), not SOLD UP, whose blind isn't down, that should have it down (for good) so that as few as may be are "
            + "SOLD UP then, of several the fewest, then the least bits.");
        SunBills x = made("kind k 10 1;house a 19 1 0;house b 9 1 0;house c 0 0 0;house d 9 1 0;house e 500 1 0;term 2;");
        is("a, b, d would be sold up", x.blinds(2, 0), 1 + 2 + 8);
        is("none then", x.blinds(2, 1), 0);
        x.go(1);
        // Each owes 10 by now: a can pay that, b and d can't any more.
        is("a alone", x.blinds(1, 0), 1);
        is("b and d are lost", x.blinds(1, 1), 2);
        x.blind(0);
        is("a's is down", x.blinds(1, 0), 0);
        is("as many", x.blinds(1, 1), 2);
        x.go(1);
        is("those sold up now aren't among them", x.blinds(40, 0), 0);
        is("e alone", x.blinds(60, 0), 16);
        is("and are counted", x.blinds(0, 1), 2);
        // Who lives on what looking brings in must not have it down; nor is one opened that is.
        SunBills y = made("kind k 10 1;house a 0 1 0;house b 0 1 0;law price 0-(date>0)*5+(date=0)*3;term 2;");
        is("both live on credit", y.blinds(2, 0), 0);
        y.blind(0);
        y.go(1);
        is("b owes 3, and will be paid 5", y.blinds(1, 0), 0);
        is("none", y.blinds(1, 1), 0);
        // For good: not only for a day.
        SunBills z = made(lasting(30, 1));
        is("in 30 days no need", z.blinds(30, 0), 0);
        is("in 31", z.blinds(31, 0), 1);
        is("saved", z.blinds(31, 1), 0);
        is("in 60", z.blinds(60, 0), 1);
    }

    private static void blinds() {
        says("BLINDS (of 0 DAYS none), what 0: HOUSES (bits), 1: how many are SOLD UP then. NONE: no such ones.");
        bounds(TOWN, "n", 0, 60, -1, (x, v) -> x.blinds(v, 0));
        bounds(TOWN, "n, what 1", 0, 60, -1, (x, v) -> x.blinds(v, 1));
        bounds(TOWN, "what", 0, 1, -1, (x, v) -> x.blinds(5, v));
        SunBills x = made(TOWN);
        is("0 days", x.blinds(0, 0), 0);
        is("0 days", x.blinds(0, 1), 0);
        refused(x, "nothing is drawn", () -> x.blinds(5, 0), 3);
        is("no houses", new SunBills().blinds(60, 0), 0);
        is("six", made("kind k 9 1;" + SIX_HOUSES + "term 1;").blinds(1, 0), 63);
    }

    private static void amongFew() {
        says("AMONG for a sum: the fewest HOUSES (bits), not SOLD UP, whose PURSES less BILLS come to it at least, of several the least bits.");
        SunBills x = made("kind k 10 1;house a 10 0 0;house b 20 0 0;house c 30 0 0;house d 20 0 0;house e 5 1 0;term 2;");
        is("1 by the first", x.among(1), 1);
        is("10 by a", x.among(10), 1);
        is("11 by b", x.among(11), 2);
        is("20 by b, not d", x.among(20), 2);
        is("30 by c", x.among(30), 4);
        is("31: a and c, not more", x.among(31), 5);
        is("40: a and c", x.among(40), 5);
        is("41: b and c", x.among(41), 6);
        is("50: b and c", x.among(50), 6);
        is("51: a, b, c", x.among(51), 7);
        is("61: b, c, d", x.among(61), 14);
        is("80: a to d", x.among(80), 15);
        is("85: all", x.among(85), 31);
        is("86", x.among(86), -2);
        x.go(1);
        is("e is at -5: 80", x.among(80), 15);
        is("81", x.among(81), -2);
        x.go(1);
        is("e is sold up", x.house(4, 5), 1);
        is("80", x.among(80), 15);
    }

    private static void among() {
        says("AMONG (sum 1 .. 9999; bits); -2: by none; NONE: no such sum.");
        bounds(TOWN, "sum", 1, 9999, -1, SunBills::among);
        is("no houses", new SunBills().among(1), -2);
        is("0 has no answer", new SunBills().among(0), -1);
        SunBills x = made("kind k 1 1;house a 999 0 99;law price 0-999;term 9;");
        x.go(9);
        is("9999 by one", x.among(9999), 1);
        is("there is more", x.have(1), 999 + 99 + 8991);
    }

    private static void rescueTerm() {
        says("RESCUE: behind the DAYS to the next term, that one with, as it goes: what is below 0 in PURSES of those who are SOLD UP by then but not now, in sum");
        SunBills x = made("kind k 10 1;house a 5 1 0;house b 900 0 0;house c 15 2 1;term 1;");
        is("5, 4", x.rescue(), 9);
        SunBills y = made("kind k 10 1;house a 5 1 0;house b 900 0 0;house c 15 2 1;term 2;");
        is("15, 24", y.rescue(), 39);
        y.go(1);
        is("this day is the last ahead of it", y.rescue(), 39);
        y.send(0);
        y.blind(0);
        is("5, 24", y.rescue(), 29);
        y.go(1);
        is("sold up now", y.count(5), 2);
        is("those aren't in it", y.rescue(), 0);
        SunBills z = made("kind k 10 1;house a 5 1 0;house b 900 0 0;");
        is("30 days", z.rescue(), 295);
    }

    private static void rescueNot() {
        says("if the PURSES of those who aren't SOLD UP then come to less, it can't be (those SOLD UP now are in neither).");
        is("9 of 9", made("kind k 10 1;house a 1 1 0;house b 9 0 0;term 1;").rescue(), 9);
        is("9 of 8", made("kind k 10 1;house a 1 1 0;house b 8 0 0;term 1;").rescue(), -2);
        is("9 of 8 and 1 earned", made("kind k 10 1;house a 1 1 0;house b 8 0 1;term 1;").rescue(), 9);
        is("9 of 5 and 4", made("kind k 10 1;house b 5 0 0;house a 1 1 0;house c 4 0 0;term 1;").rescue(), 9);
        is("9 of none", made("kind k 10 1;house a 1 1 0;term 1;").rescue(), -2);
        SunBills x = made("kind k 10 1;house a 0 9 0;house b 10 1 0;house c 10 0 0;term 1;");
        x.go(1);
        is("a is at -90", x.house(0, 0), -90);
        is("b: 10 of c's 10, a in neither", x.rescue(), 10);
        x.lend(2, 1, 1);
        is("b: 9 of c's 9", x.rescue(), 9);
    }

    private static void rescue() {
        says("RESCUE (0: nobody is); -2: it can't be.");
        is("no houses", new SunBills().rescue(), 0);
        is("nobody", made("kind k 10 1;house a 10 1 0;term 1;").rescue(), 0);
        is("one", made("kind k 10 1;house a 9 1 0;house b 1 0 0;term 1;").rescue(), 1);
        SunBills x = made("kind k 10 1;house a 9 1 0;term 1;");
        is("it can't be", x.rescue(), -2);
        refused(x, "nothing goes by", x::rescue, -2);
        x.go(1);
        is("all are sold up now", x.rescue(), 0);
    }

    // ---- how often, who owes

    private static void termIn() {
        says("In how many DAYS bills are paid (1: this DAY).");
        for (int term : new int[] {1, 2, 30, 99}) {
            SunBills x = made("house h 0 0 1;term " + term + ";");
            for (int day = 0; day < 200; day++) {
                int in = x.termIn();
                is("term " + term + ", day " + day, in, term - day % term);
                is("then it is paid", x.ahead(in, 0, 0), x.house(0, 0) + 1);
                is("not ahead of it", x.ahead(in - 1, 0, 0), x.house(0, 0));
                x.go(1);
            }
        }
        SunBills y = new SunBills();
        for (int i = 0; i < 45; i++) {
            y.go(200);
        }
        is("day 9000", y.termIn(), 30);
    }

    private static void often() {
        says("Of n DAYS (0 .. 200) as it goes, on how many a KIND is the WEATHER; NONE: no such ones.");
        bounds(TOWN, "n", 0, 200, -1, (x, v) -> x.often(0, v));
        bounds(TOWN, "kind", 0, 2, -1, (x, v) -> x.often(v, 1));
        is("no kinds", new SunBills().often(0, 0), -1);
        SunBills x = made("kind a 1 1;kind b 1 0;day 0 b;day 99 b;");
        is("0 days", x.often(1, 0), 0);
        is("1 day", x.often(1, 1), 1);
        is("99 days", x.often(1, 99), 1);
        is("100 days", x.often(1, 100), 2);
        is("200 days", x.often(1, 200), 2);
        is("200 days of the other", x.often(0, 200), 198);
        x.send(0);
        is("sent in place", x.often(1, 100), 1);
        is("none", made("kind a 1 0;").often(0, 200), 0);
    }

    private static void owes() {
        says("In how many DAYS as it goes, 199 at most, PURSE less BILL of a HOUSE is below 0 (0: it is, as of one SOLD UP); -2: not by then; "
            + "NONE: no such HOUSE.");
        bounds(TOWN, "house", 0, 2, -1, SunBills::owes);
        is("no houses", new SunBills().owes(0), -1);
        is("in 1", made(lasting(0, 99)).owes(0), 1);
        is("in 199", made(lasting(198, 99)).owes(0), 199);
        is("in 200", made(lasting(199, 99)).owes(0), -2);
        is("at 0 it does not", made("kind k 0 1;house h 0 1 0;").owes(0), -2);
        SunBills x = made(lasting(1, 5));
        x.go(1);
        is("in 1", x.owes(0), 1);
        x.go(1);
        is("it does", x.owes(0), 0);
        x.go(3);
        is("sold up", x.owes(0), 0);
        x.go(200);
        is("for good", x.owes(0), 0);
        // What is earned at the term comes too late.
        is("though it can pay", made("kind k 1 1;house h 0 1 99;term 2;").owes(0), 1);
        is("earned the same day", made("kind k 1 1;house h 0 1 99;term 1;").owes(0), -2);
    }

    private static void have() {
        says("PURSES less BILLS of some HOUSES (bits; 0 of none) in sum (may be below 0); Integer.MIN_VALUE: no such ones.");
        bounds(TOWN, "houses", 0, 7, LOW, SunBills::have);
        bounds(SIX_HOUSES, "houses of six", 0, 63, LOW, SunBills::have);
        is("no houses", new SunBills().have(0), 0);
        beyond("", "no houses", 0, 0, LOW, SunBills::have);
        SunBills x = made(TOWN);
        is("none", x.have(0), 0);
        is("all", x.have(7), 70);
        x.go(1);
        is("below 0", x.have(2), -4);
        is("in sum", x.have(3), 34);
        x.go(4);
        is("of those sold up, too", x.have(3), -167);
    }

    private static void dearest() {
        says("The KIND of which WORTH times WEIGHT is most, the first of several; -2: there are none.");
        is("none", new SunBills().dearest(), -2);
        is("0 of one", made("kind a 0 0;").dearest(), 0);
        is("all 0", made("kind a 0 9;kind b 9 0;").dearest(), 0);
        is("1 behind 0", made("kind a 0 9;kind b 1 1;").dearest(), 1);
        is("the first of several", made("kind a 1 1;kind b 2 6;kind c 12 1;kind d 4 3;").dearest(), 1);
        is("the last", made(SIX_KINDS.substring(0, 55) + "kind f 1 2;").dearest(), 5);
        is("the most", made("kind a 99 98;kind b 99 99;").dearest(), 1);
    }

    // ---- NOTES

    private static void notes() {
        says("NOTES (note), at most 24, numbered from 0 on");
        SunBills x = made(TOWN);
        for (int i = 0; i < 24; i++) {
            is("note " + i, x.note(i, i % 3, i, i % 2 == 0), i);
        }
        refused(x, "the 25th", () -> x.note(0, 0, 0, true), -1);
        refused(x, "a strike", () -> x.strike(0), -1);
        is("24", x.count(10), 24);
        is("the 24th counts: a HOUSE of EAGER 0 was billed more than 23", x.fits(23), 0);
        is("the first: 0 or less", x.fits(0), 4);
        read(x, TOWN);
        is("from 0 on again", x.note(0, 0, 0, true), 0);
    }

    private static void noted() {
        says("a HOUSE was billed, for a DAY 0 .. 99, so much 0 .. 999 (WORTH times EAGER) or less, or more than that.");
        SunBills x = made("kind a 3 1;kind b 4 1;house h 0 5 0;house i 0 0 0;");
        int[] bills = {0, 14, 15, 16, 19, 20, 21, 999};
        int[] less = {0, 0, 1, 1, 1, 3, 3, 3};
        for (int i = 0; i < bills.length; i++) {
            x.note(i, 0, bills[i], true);
            x.note(99 - i, 0, bills[i], false);
            is(bills[i] + " or less", x.fits(i), less[i]);
            is("more than " + bills[i], x.fits(99 - i), 3 - less[i]);
        }
        x.note(50, 1, 0, true);
        is("0 or less of EAGER 0", x.fits(50), 3);
        x.note(50, 1, 0, false);
        is("more than 0 of EAGER 0", x.fits(50), 0);
        for (int day : new int[] {LOW, -1, 100, HIGH}) {
            refused(x, "day " + day, () -> x.note(day, 0, 0, true), -1);
        }
        for (int bill : new int[] {LOW, -1, 1000, HIGH}) {
            refused(x, "bill " + bill, () -> x.note(0, 0, bill, false), -1);
        }
    }

    private static void note() {
        says("A NOTE: its number; NONE: no such ones, or there are 24 in all.");
        bounds(TOWN, "day", 0, 99, -1, (x, v) -> x.note(v, 0, 0, true));
        bounds(TOWN, "house", 0, 2, -1, (x, v) -> x.note(0, v, 0, true));
        bounds(TOWN, "bill", 0, 999, -1, (x, v) -> x.note(0, 0, v, true));
        is("no houses", made("kind a 1 1;").note(0, 0, 0, true), -1);
        SunBills x = made(TOWN);
        x.note(0, 0, 0, true);
        for (int i = 1; i < 23; i++) {
            x.strike(0);
        }
        is("the 24th", x.note(0, 0, 0, true), 23);
        refused(x, "the 25th", () -> x.note(0, 0, 0, true), -1);
    }

    private static void strikes() {
        says("the first n that aren't STRUCK by one of these (a STRIKE may be STRUCK: then it doesn't count; asked from the last one on)");
        SunBills x = made(TOWN);
        x.note(0, 0, 12, true); // 0: r or m
        x.strike(0); // 1
        is("struck", x.fits(0), 7);
        x.strike(1); // 2: the strike doesn't count
        is("counts again", x.fits(0), 6);
        x.strike(2); // 3
        is("struck again", x.fits(0), 7);
        x.strike(2); // 4: twice is once
        is("struck", x.fits(0), 7);
        x.strike(3); // 5: 4 still strikes 2
        is("struck by the other one", x.fits(0), 7);
        x.strike(4); // 6: now 2 counts
        is("counts", x.fits(0), 6);
        int[] due = {7, 6, 7, 6, 7, 7, 7, 6};
        for (int n = 0; n < due.length; n++) {
            x.known(n);
            is("by " + n, x.fits(0), due[n]);
        }
        // A chain of 23 strikes: each strikes the one ahead.
        SunBills y = made(TOWN);
        y.note(0, 0, 12, true);
        for (int i = 0; i < 23; i++) {
            y.strike(i);
            is("by " + (i + 1) + " strikes", y.fits(0), i % 2 == 0 ? 7 : 6);
        }
    }

    private static void strike() {
        says("A STRIKE: its number; NONE: no such NOTE or STRIKE, or there are 24 in all.");
        SunBills x = made(TOWN);
        for (int v : new int[] {LOW, -1, 0, 1, 23, 24, HIGH}) {
            refused(x, "none to strike: " + v, () -> x.strike(v), -1);
        }
        x.note(0, 0, 0, true);
        for (int v : new int[] {LOW, -1, 1, 2, 24, HIGH}) {
            refused(x, "one to strike: " + v, () -> x.strike(v), -1);
        }
        is("the note", x.strike(0), 1);
        is("the strike", x.strike(1), 2);
        refused(x, "itself", () -> x.strike(3), -1);
        for (int i = 3; i < 24; i++) {
            is("strike " + i, x.strike(i - 1), i);
        }
        refused(x, "there are 24", () -> x.strike(23), -1);
        refused(x, "there are 24", () -> x.strike(24), -1);
    }

    private static void knownBy() {
        says("KNOWN by n (all at first)");
        SunBills x = made(TOWN);
        x.note(0, 0, 12, true);
        is("all at first", x.fits(0), 6);
        is("by 1", x.count(11), 1);
        x.note(0, 0, 11, false);
        is("those to come", x.fits(0), 2);
        is("by 2", x.count(11), 2);
        x.known(1);
        is("by the first", x.fits(0), 6);
        x.known(0);
        is("by none", x.fits(0), 7);
    }

    private static void known() {
        says("KNOWN by n from now on (-1: by all, also those to come): true; false: no such n.");
        SunBills x = made(TOWN);
        for (int v : new int[] {LOW, -2, 1, 24, 25, HIGH}) {
            refused(x, "of none " + v, () -> x.known(v) ? 1 : 0, 0);
        }
        is("by 0 of 0", x.known(0), true);
        x.note(0, 0, 12, true);
        is("not by what comes", x.count(11), 0);
        for (int v : new int[] {LOW, -2, 2, 3, 24, 25, HIGH}) {
            refused(x, "of one " + v, () -> x.known(v) ? 1 : 0, 0);
        }
        is("by 1 of 1", x.known(1), true);
        x.note(0, 1, 0, true);
        is("by 1 of 2", x.count(11), 1);
        is("by all", x.known(-1), true);
        x.note(0, 2, 0, true);
        is("also those to come", x.count(11), 3);
        for (int i = 3; i < 24; i++) {
            x.note(1, 0, 0, true);
        }
        is("by 24 of 24", x.known(24), true);
        is("not by 25", x.known(25), false);
    }

    private static void fitting() {
        says("FITS of a DAY: KINDS (bits) by which all KNOWN NOTES of that DAY are so (what is told isn't looked at).");
        SunBills x = made(TOWN);
        is("day 0 is told to be r", x.fits(0), 7);
        x.note(0, 1, 59, true);
        is("60 is more than 59", x.fits(0), 6);
        x.note(1, 1, 60, true);
        is("60 is 60 or less", x.fits(1), 7);
        x.note(2, 1, 60, false);
        is("60 isn't more than 60", x.fits(2), 0);
        x.note(3, 1, 59, false);
        is("60 is more than 59", x.fits(3), 1);
        x.note(4, 1, 0, true);
        is("0 or less", x.fits(4), 4);
        x.note(5, 1, 0, false);
        is("more than 0", x.fits(5), 3);
        x.note(6, 1, 999, true);
        is("999 or less", x.fits(6), 7);
        x.note(7, 1, 999, false);
        is("more than 999", x.fits(7), 0);
        x.note(3, 1, 59, true);
        is("both can't be", x.fits(3), 0);
        is("six kinds", made(SIX_KINDS).fits(0), 63);
        SunBills y = made("kind a 99 1;house h 0 9 0;");
        y.note(0, 0, 890, false);
        is("891 is more than 890", y.fits(0), 1);
        y.note(0, 0, 891, true);
        is("891 or less", y.fits(0), 1);
    }

    private static void fits() {
        says("FITS (bits); NONE: no such DAY.");
        bounds(TOWN, "day", 0, 99, -1, SunBills::fits);
        is("no kinds", new SunBills().fits(0), 0);
        is("no kinds, no such day", new SunBills().fits(100), -1);
        SunBills x = made(TOWN);
        x.note(99, 0, 0, true);
        is("day 99", x.fits(99), 4);
        is("day 98", x.fits(98), 7);
    }

    private static void asking() {
        says("each sum an answer, as few of these as may be are left at worst, the first of several (the first one, 0, if none fits).");
        SunBills x = made("kind a 1 1;kind b 1 1;kind c 2 1;kind d 3 1;house g 0 0 0;house h 0 1 0;house i 0 9 0;");
        is("g leaves 4, h and i 2: the first", x.ask(0, 0), 1);
        is("2", x.ask(0, 1), 2);
        x.note(0, 1, 1, false);
        is("c, d: h", x.ask(0, 0), 1);
        is("one", x.ask(0, 1), 1);
        x.note(0, 1, 2, false);
        is("d alone: all alike, the first", x.ask(0, 0), 0);
        is("one", x.ask(0, 1), 1);
        x.note(0, 1, 2, true);
        is("none fits: the first", x.ask(0, 0), 0);
        is("0", x.ask(0, 1), 0);
        is("another day", x.ask(1, 0), 1);
        SunBills z = made("kind a 1 1;kind b 2 1;house g 0 1 0;");
        z.note(0, 0, 1, true);
        is("the first KIND alone", z.ask(0, 1), 1);
        SunBills y = made("kind a 9 1;kind b 9 1;house g 0 0 0;house h 0 9 0;");
        is("alike: the first", y.ask(0, 0), 0);
        is("both are left", y.ask(0, 1), 2);
    }

    private static void ask() {
        says("ASK, what 0: the HOUSE, 1: how many are left at worst. -2: there are no HOUSES; NONE: no such ones.");
        bounds(TOWN, "day", 0, 99, -1, (x, v) -> x.ask(v, 0));
        bounds(TOWN, "what", 0, 1, -1, (x, v) -> x.ask(0, v));
        is("no houses", made("kind a 1 1;").ask(0, 0), -2);
        is("no houses", new SunBills().ask(99, 1), -2);
        SunBills x = made("house h 1 1 1;");
        is("no kinds: the first", x.ask(0, 0), 0);
        is("no kinds: 0", x.ask(0, 1), 0);
    }

    // ---- chance, TRIED, count

    private static void chance() {
        says("In how many of ten times drawn (numbers from a seed 0 .. 2147483647 on, one behind another; n 1 .. 99 DAYS from now) a HOUSE is SOLD UP then");
        // One number a time: the second KIND, which is dear, comes by an odd one.
        String text = "kind a 0 1;kind b 9 1;house h 8 1 0;house i 0 0 0;term 1;";
        for (int seed : new int[] {0, 1, 2, 65535, 65536, 99999, 100000, HIGH - 1, HIGH}) {
            for (int n : new int[] {1, 2, 3}) {
                BigInteger last = BigInteger.valueOf(seed);
                int due = 0;
                for (int time = 0; time < 10; time++) {
                    boolean odd = false;
                    for (int day = 0; day < n; day++) {
                        last = last.multiply(BigInteger.valueOf(1103515245)).add(BigInteger.valueOf(12345)).mod(
                            BigInteger.ONE.shiftLeft(31));
                        odd |= last.testBit(16);
                    }
                    due += odd ? 1 : 0;
                }
                is("seed " + seed + ", " + n + " days", made(text).chance(seed, n, 0), due);
            }
        }
        SunBills x = made(text);
        is("never", x.chance(5, 99, 1), 0);
        is("nearly always", x.chance(5, 99, 0), 10);
        refused(x, "nothing goes by", () -> x.chance(5, 99, 0), 10);
        x.send(1);
        x.go(1);
        is("it is", x.chance(5, 1, 0), 10);
    }

    private static void chanceNone() {
        says("a HOUSE is SOLD UP then; NONE: no such ones.");
        bounds(TOWN, "n", 1, 99, -1, (x, v) -> x.chance(0, v, 0));
        bounds(TOWN, "house", 0, 2, -1, (x, v) -> x.chance(0, 1, v));
        SunBills x = made(TOWN);
        for (int seed : new int[] {-1, -2, LOW}) {
            refused(x, "seed " + seed, () -> x.chance(seed, 1, 0), -1);
        }
        isNot("seed 0", x.chance(0, 1, 0), -1);
        isNot("the greatest seed", x.chance(HIGH, 1, 0), -1);
        is("no houses", new SunBills().chance(0, 1, 0), -1);
    }

    private static void tries() {
        says("0 all blinds are down, 1 all KINDS have WORTH 0 (worth, too), 2 HOUSE i has its blind down (others as now), "
            + "3 all HOUSES are EAGER 9 (eager, too), 4 there are no terms.");
        String text = "kind k 10 1;house g 100 1 5;house h 100 2 5;term 2;";
        SunBills x = made(text);
        is("all down", x.tried(0, 0, 2), 210);
        is("worth 0", x.tried(1, 0, 2), 210);
        is("g's", x.tried(2, 0, 2), 105 + 65);
        is("h's", x.tried(2, 1, 2), 85 + 105);
        is("eager 9", x.tried(3, 0, 2), 2 * (105 - 180));
        is("no terms", x.tried(4, 0, 2), 80 + 60);
        x.blind(1);
        is("others as now", x.tried(2, 0, 2), 210);
        is("of one that is down", x.tried(2, 1, 2), 85 + 105);
        SunBills y = made("kind k 10 1;house g 100 1 5;law look worth <> 0;law use 3;law price eager;term 99;");
        is("worth, too: it doesn't look", y.tried(1, 0, 1), 100);
        is("eager, too", y.tried(3, 0, 1), 91);
        is("as told", y.tried(4, 0, 1), 99);
        // Nobody is sold up without terms; nothing is earned.
        SunBills z = made("kind k 99 1;house g 1 9 9;term 1;");
        is("5 days", z.tried(4, 0, 5), 1 - 5 * 891);
        is("200 days: a bill of 99999", z.tried(4, 0, 200), 1 - 99999);
        // What is only tried leaves no trace.
        String before = state(z);
        z.tried(1, 0, 9);
        z.tried(3, 0, 9);
        z.tried(4, 0, 9);
        same("as before", state(z), before);
        is("as told again", z.ahead(1, 0, 0), 1 + 9 - 891);
        SunBills w = made("kind k 5 1;house g 100 2 0;law look worth + eager;term 1;");
        for (int what : new int[] {1, 3, 4}) {
            w.tried(what, 0, 9);
            is("a law as told", w.law(0, 0, 0), 7);
            w.tried(what, 0, 9);
            is("ahead as told", w.ahead(1, 0, 0), w.house(0, 0) - 10);
            w.tried(what, 0, 9);
            w.go(1);
            is("days as told", w.house(0, 0), what == 1 ? 90 : what == 3 ? 80 : 70);
        }
        is("no houses", new SunBills().tried(3, 0, 200), 0);
    }

    private static void tried() {
        says("TRIED (n 0 .. 200); Integer.MIN_VALUE: no such ones (i 0 of all but 2).");
        for (int what = 0; what < 5; what++) {
            int asked = what;
            bounds(TOWN, "n of what " + what, 0, 200, LOW, (x, v) -> x.tried(asked, 0, v));
            bounds(TOWN, "i of what " + what, 0, what == 2 ? 2 : 0, LOW, (x, v) -> x.tried(asked, v, 5));
            is("0 days", made(TOWN).tried(asked, 0, 0), 70);
        }
        bounds(TOWN, "what", 0, 4, LOW, (x, v) -> x.tried(v, 0, 5));
        is("no houses, 2", new SunBills().tried(2, 0, 0), LOW);
        is("no houses, 0", new SunBills().tried(0, 0, 0), 0);
    }

    private static void counts() {
        says("9 DAYS without WEATHER so far, 10 NOTES and STRIKES, 11 by how many it is KNOWN, 12 what can be undone.");
        SunBills x = made("kind a 1 0;house h 9 1 0;");
        is("no days", x.count(9), 0);
        x.go(2);
        x.send(0);
        x.go(1);
        x.go(200);
        is("but one", x.count(9), 202);
        for (int i = 0; i < 24; i++) {
            is("notes", x.count(10), i);
            is("known by all", x.count(11), i);
            if (i % 2 == 0) {
                x.note(0, 0, 0, true);
            } else {
                x.strike(0);
            }
        }
        is("24", x.count(10), 24);
        x.known(0);
        is("by none", x.count(11), 0);
        x.known(24);
        is("by 24", x.count(11), 24);
        for (int i = 0; i < 25; i++) {
            is("to undo", x.count(12), Math.min(20, i));
            x.blind(0);
        }
    }

    private static void count() {
        says("NONE for another what (6, 7 may be below 0).");
        SunBills x = made(TOWN);
        for (int what : new int[] {LOW, -2, -1, 13, 14, HIGH}) {
            refused(x, "count(" + what + ")", () -> x.count(what), -1);
        }
        for (int what = 0; what < 13; what++) {
            isNot("count(" + what + ")", x.count(what), -1);
        }
        x.go(5);
        is("purses below 0", x.count(6), -167);
        SunBills y = made("kind a 1 1;house h 0 0 0;house i 0 0 0;law price 0-(date+1)*9;");
        y.go(2);
        is("bills below 0", y.count(7), -54);
        SunBills z = made(SIX_KINDS + SIX_HOUSES + times(6, "work a a;") + "law use 1" + times(31, "+1") + ";law look 1;");
        is("six kinds", z.count(0), 6);
        is("six houses", z.count(1), 6);
        is("six works", z.count(2), 6);
        is("64 knots", z.count(3), 64);
        for (int i = 0; i < 45; i++) {
            z.go(200);
        }
        is("9000 days", z.count(4), 9000);
        is("none without weather", z.count(9), 0);
        is("all sold up", z.count(5), 6);
        is("looked till then", z.count(8), 6 * 30);
    }
}
