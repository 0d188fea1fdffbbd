import java.math.BigInteger;
import java.util.NoSuchElementException;

/** Sentences with a boundary case: of DAYS, of E's values, of numbers, of what is done by call, and of promises 6 to 13. */
public final class BoundaryDaysTest extends Checks {
    private static final long ERROR = Long.MIN_VALUE;

    public static void main(String[] args) {
        sentFirst();
        toldNext();
        noNumber();
        modulo();
        byWeights();
        whoLooks();
        lookLaw();
        oneBehindAnother();
        useLaw();
        usedMost();
        priceLaw();
        defaultPrice();
        billMost();
        multipleOfTerm();
        whoPays();
        comesIn();
        soldUp();
        nextDay();
        names();
        usedOfPrice();
        truths();
        bothSides();
        longs();
        cut();
        errors();
        numbers();
        asItGoes();
        asItGoesNone();
        undone();
        undoneMost();
        undoneDay();
        imageKeeps();
        house();
        houseNone();
        houseWhat();
        kind();
        weather();
        law();
        lawNone();
        blind();
        send();
        lend();
        lendMost();
        lendNot();
        lendNone();
        go();
        undo();
        keep();
        back();
        end("boundaries of days");
    }

    // ---- a DAY: its WEATHER

    private static void sentFirst() {
        says("a KIND sent by call, if one is (ahead of one told)");
        SunBills x = made("kind a 1 1;kind b 1 9;kind c 1 0;day 0 b;");
        is("told", x.weather(0), 1);
        x.send(0);
        x.go(1);
        is("sent, not told", x.kind(0, 2), 1);
        is("the told one did not come", x.kind(1, 2), 0);
        x.send(2);
        x.go(1);
        is("sent, of no weight", x.kind(2, 2), 1);
    }

    private static void toldNext() {
        says("else the one told of this DAY (no number for these)");
        // By numbers from seed 0 on the first number is 0, the second 21468: of WEIGHTS 1 and 1 the first KIND both.
        // The fourth is 22117: the second KIND. What is told or sent ahead of them leaves the numbers as they are.
        SunBills x = made("kind a 1 1;kind b 1 1;kind c 1 0;day 0 c;day 2 c;day 4 c;");
        String came = "";
        for (int day = 0; day < 9; day++) {
            if (day == 1) {
                x.send(2);
            }
            came += latest(x);
        }
        same("c c c 0 c 21468 9988 22117 3498", came, "222020010");
        SunBills y = made("kind a 1 1;kind b 1 1;day 99 b;");
        y.go(99);
        int before = y.kind(1, 2);
        y.go(1);
        is("told of day 99", y.kind(1, 2), before + 1);
    }

    /** The KIND of the DAY that goes by, or 9. */
    private static int latest(SunBills x) {
        int[] before = new int[x.count(0)];
        for (int k = 0; k < before.length; k++) {
            before[k] = x.kind(k, 2);
        }
        x.go(1);
        for (int k = 0; k < before.length; k++) {
            if (x.kind(k, 2) != before[k]) {
                return k;
            }
        }
        return 9;
    }

    private static void noNumber() {
        says("(no number, if that sum is 0, or if one KIND alone has a WEIGHT)");
        // An object has no DAYS both with and without numbers but by what is told; so a KIND alone comes whatever the seed.
        for (int seed = 0; seed < 20; seed++) {
            SunBills x = made("kind a 1 0;kind b 1 1;kind c 1 0;seed " + seed + ";");
            x.go(50);
            is("b alone", x.kind(1, 2), 50);
            SunBills y = made("kind a 1 0;kind b 1 0;seed " + seed + ";");
            y.go(50);
            is("none", y.count(9), 50);
        }
        SunBills z = made("kind a 1 7;");
        z.go(3);
        is("the only one", z.kind(0, 2), 3);
    }

    private static void modulo() {
        says("else by a number modulo the WEIGHTS of all KINDS in sum");
        // 21468 is the second number from seed 0 on.
        for (int first = 1; first < 40; first++) {
            for (int other = 1; other < 40; other += 7) {
                int left = 21468 % (first + other);
                is("weights " + first + ", " + other, second("kind a 1 " + first + ";kind b 1 " + other + ";", 2), left < first ? 0 : 1);
            }
        }
    }

    private static void byWeights() {
        says("the first KIND up to which the WEIGHTS, it with, come to more than that; none, if that sum is 0.");
        // The numbers from seed 0 on are 0, 21468, ...; 21468 modulo 10 is 8.
        is("0 of 1 and 9", second("kind a 1 1;kind b 1 9;", 1), 0);
        is("0 behind two of weight 0", second("kind a 1 0;kind b 1 0;kind c 1 5;kind d 1 5;", 1), 2);
        is("8 of 9 and 1: 9 is more", second("kind a 1 9;kind b 1 1;", 2), 0);
        is("8 of 8 and 2: 8 is not more", second("kind a 1 8;kind b 1 2;", 2), 1);
        is("8 of 8, 0, 2", second("kind a 1 8;kind b 1 0;kind c 1 2;", 2), 2);
        is("8 of 8, 1, 1", second("kind a 1 8;kind b 1 1;kind c 1 1;", 2), 1);
        is("8 of 4, 4, 1, 1", second("kind a 1 4;kind b 1 4;kind c 1 1;kind d 1 1;", 2), 2);
        // 21468 modulo 594 is 84 (36 times 594 is 21384): of 99 six times, and of 84 first.
        is("84 of 99 six times", second("kind a 1 99;kind b 1 99;kind c 1 99;kind d 1 99;kind e 1 99;kind f 1 99;", 2), 0);
        // modulo 6 it is 0, modulo 5 3, modulo 7 6: the last of seven
        is("6 of 6 and 1", second("kind a 1 6;kind b 1 1;", 2), 1);
        is("3 of 3 and 2", second("kind a 1 3;kind b 1 2;", 2), 1);
        is("3 of 4 and 1", second("kind a 1 4;kind b 1 1;", 2), 0);
        SunBills x = made("kind a 1 0;house h 1 1 1;");
        x.go(1);
        is("none", x.count(9), 1);
        is("nobody looks without weather", x.house(0, 4), 0);
        SunBills y = made("house h 1 1 1;");
        y.go(1);
        is("no kinds, none", y.count(9), 1);
    }

    /** The KIND of the n-th DAY by numbers. */
    private static int second(String text, int n) {
        SunBills x = made(text);
        x.go(n - 1);
        return latest(x);
    }

    // ---- a DAY: looking

    private static void whoLooks() {
        says("(2) if there is WEATHER, by numbers each HOUSE that isn't SOLD UP and whose blind isn't down");
        SunBills x = made("kind a 5 1;house g 0 1 0;house h 99 1 0;house i 99 1 0;term 1;");
        x.blind(2);
        x.go(1);
        is("g was sold up this day", x.house(0, 5), 1);
        is("h looked", x.house(1, 4), 1);
        is("i's blind is down", x.house(2, 4), 0);
        x.go(2);
        is("g looks no more", x.house(0, 4), 1);
        is("h looks", x.house(1, 4), 3);
        is("i does not", x.house(2, 4) + x.house(2, 1) + x.house(2, 2), 0);
        x.blind(2);
        x.blind(1);
        x.go(1);
        is("h does not", x.house(1, 4), 3);
        is("i does", x.house(2, 4), 1);
        SunBills y = made("kind a 5 0;house h 99 1 0;law price 7;");
        y.go(3);
        is("no weather", y.house(0, 4) + y.house(0, 1) + y.house(0, 2), 0);
    }

    private static void lookLaw() {
        says("if E of look isn't 0 (1 without, with an ERROR), it LOOKS");
        is("without", looked(""), 1);
        is("1", looked("law look 1;"), 1);
        is("0", looked("law look 0;"), 0);
        is("2", looked("law look 2;"), 1);
        is("below 0", looked("law look 0-1;"), 1);
        is("an error", looked("law look 1/0;"), 1);
        is("an error of 0", looked("law look 0*(1/0);"), 1);
        is("too great", looked("law look 0-9999*9999*9999*9999;"), 1);
        is("less than the half of nothing", looked("law look 1/2;"), 0);
        SunBills x = made("kind a 5 1;house h 99 2 0;law look 0;law use 9;law price 9;");
        x.go(3);
        is("who doesn't look uses nothing, owes nothing", x.house(0, 1) + x.house(0, 2), 0);
    }

    private static int looked(String law) {
        SunBills x = made("kind a 5 1;house h 99 2 0;" + law);
        x.go(1);
        return x.house(0, 4);
    }

    private static void oneBehindAnother() {
        says("(E of look, use, price are asked one behind the other, each HOUSE for itself)");
        // look knows what was used ahead of this DAY, price with it; the second HOUSE nothing of the first one's.
        SunBills x = made("kind a 5 1;house g 10 1 0;house h 20 2 0;law look used < 3;law use eager + bill;law price used * 10 + purse;");
        x.go(1);
        is("g used", x.house(0, 2), 1);
        is("g's bill", x.house(0, 1), 20);
        is("h used", x.house(1, 2), 2);
        is("h's bill", x.house(1, 1), 40);
        x.go(1);
        is("g used 21 more", x.house(0, 2), 22);
        is("g's bill: 230 more", x.house(0, 1), 250);
        is("h used 42 more", x.house(1, 2), 44);
        x.go(1);
        is("g looks no more", x.house(0, 4), 2);
        is("h neither", x.house(1, 4), 2);
    }

    private static int used(String law) {
        SunBills x = made("kind a 5 1;house h 99 7 0;" + law);
        x.go(1);
        return x.house(0, 2);
    }

    private static void useLaw() {
        says("it USES E of use (0 .. 99; EAGER without, with an ERROR) more");
        is("without", used(""), 7);
        is("an error", used("law use 1/0;"), 7);
        is("too great an error", used("law use 9999*9999*9999*9999;"), 7);
        is("0", used("law use 0;"), 0);
        is("1", used("law use 1;"), 1);
        is("99", used("law use 99;"), 99);
        is("100", used("law use 100;"), 99);
        is("9999", used("law use 9999;"), 99);
        is("10 to the 12", used("law use 1000*1000*1000*1000;"), 99);
        is("2 to the 32, and 1", used("law use 4096*1024*1024+1;"), 99);
        is("-1", used("law use 0-1;"), 0);
        is("-10 to the 12", used("law use 0-1000*1000*1000*1000;"), 0);
        is("-2 to the 32, and 7", used("law use 7-4096*1024*1024;"), 0);
    }

    private static void usedMost() {
        says("more (99999 at most in all)");
        SunBills x = made("kind a 1 1;house h 0 0 0;law use 99;law price 0;term 99;");
        for (int i = 0; i < 5; i++) {
            x.go(200);
        }
        is("1000 days", x.house(0, 2), 99000);
        x.go(10);
        is("1010 days", x.house(0, 2), 99990);
        is("the next one ahead", x.ahead(1, 2, 0), 99999);
        x.go(1);
        is("9 more only", x.house(0, 2), 99999);
        x.go(1);
        is("no more", x.house(0, 2), 99999);
        is("it looks yet", x.house(0, 4), 1012);
    }

    private static int billed(String law) {
        SunBills x = made("kind a 5 1;house h 99 7 0;" + law);
        x.go(1);
        return x.house(0, 1);
    }

    private static void priceLaw() {
        says("its BILL is E of price (-999 .. 999;");
        is("0", billed("law price 0;"), 0);
        is("999", billed("law price 999;"), 999);
        is("1000", billed("law price 1000;"), 999);
        is("10 to the 12", billed("law price 1000*1000*1000*1000;"), 999);
        is("2 to the 32, and 5", billed("law price 4096*1024*1024+5;"), 999);
        is("-1", billed("law price 0-1;"), -1);
        is("-999", billed("law price 0-999;"), -999);
        is("-1000", billed("law price 0-1000;"), -999);
        is("-2 to the 32, and 5", billed("law price 5-4096*1024*1024;"), -999);
    }

    private static void defaultPrice() {
        says("WORTH times what it USES this DAY, however much, without, with an ERROR)");
        is("without", billed(""), 35);
        is("with an error", billed("law price 1/0;"), 35);
        is("too great an error", billed("law price 9999*9999*9999*9999;"), 35);
        is("what it uses is cut to 99", billed("law use 1000;"), 495);
        is("used nothing", billed("law use 0-5;"), 0);
        SunBills x = made("kind a 99 1;house h 0 0 0;law use 99;term 99;");
        x.go(1);
        is("99 times 99, above 999", x.house(0, 1), 9801);
        // What it uses this DAY, not what it USED so far.
        x.go(1);
        is("twice", x.house(0, 1), 19602);
        // Behind 99999 in all it USES as much as ever.
        SunBills y = made("kind a 1 1;house h 0 0 0;law use 99;law price (date < 1010) * 0 + 1 / (date < 1010) - 1;term 99;");
        for (int i = 0; i < 5; i++) {
            y.go(200);
        }
        y.go(10);
        y.go(2);
        is("99 twice, though 9 and 0 are more in all", y.house(0, 1), 198);
    }

    private static void billMost() {
        says("more, 99999 at most, -99999 at least.");
        SunBills x = made("kind a 99 1;house h 999 0 0;law use 99;term 99;");
        x.go(10);
        is("10 days", x.house(0, 1), 98010);
        x.go(1);
        is("11 days", x.house(0, 1), 99999);
        x.go(1);
        is("12 days", x.house(0, 1), 99999);
        x.go(87);
        is("99 days", x.house(0, 0), 999 - 99999);
        // No term comes late enough for -99999, but there may be none.
        SunBills y = made("kind a 1 1;house h 7 0 0;law price 0-999;term 99;");
        is("100 days", y.tried(4, 0, 100), 7 + 99900);
        is("101 days", y.tried(4, 0, 101), 7 + 99999);
        is("200 days", y.tried(4, 0, 200), 7 + 99999);
        SunBills z = made("kind a 1 1;house h 7 0 0;law price 999;term 99;");
        is("100 days", z.tried(4, 0, 100), 7 - 99900);
        is("101 days", z.tried(4, 0, 101), 7 - 99999);
    }

    // ---- a DAY: terms

    private static void multipleOfTerm() {
        says("(3) if the number of this DAY and 1 is a multiple of term");
        for (int term : new int[] {1, 2, 7, 30, 98, 99}) {
            SunBills x = made("house h 0 0 1;term " + term + ";");
            for (int day = 1; day <= 200; day++) {
                x.go(1);
                is("term " + term + ", behind " + day + " days", x.house(0, 0), day / term);
            }
        }
    }

    private static void whoPays() {
        says("by numbers each HOUSE that isn't SOLD UP: EARNS come into its PURSE");
        SunBills x = made("kind a 10 1;house g 0 1 9;house h 5 1 5;house i 5 9 3;term 1;");
        x.blind(2);
        x.go(1);
        is("g: 0 + 9 - 10", x.house(0, 0), -1);
        is("h: 5 + 5 - 10", x.house(1, 0), 0);
        is("i behind its blind", x.house(2, 0), 8);
        x.go(1);
        is("g earns no more", x.house(0, 0), -1);
        is("h: 0 + 5 - 10", x.house(1, 0), -5);
        is("both", x.count(5), 2);
        SunBills y = made("house g 0 1 9;term 1;");
        y.go(1);
        is("without weather", y.house(0, 0), 9);
    }

    private static void comesIn() {
        says("its BILL is taken from it (one below 0 comes in; 99999 at most is left) and is 0 then");
        SunBills x = made("kind a 1 1;house h 5 0 2;law price 0-999;term 3;");
        x.go(2);
        is("a bill below 0", x.house(0, 1), -1998);
        x.go(1);
        is("comes in", x.house(0, 0), 5 + 2 + 2997);
        is("and is 0", x.house(0, 1), 0);
        SunBills y = made("kind a 1 1;house h 3 0 99;law price 0-999;term 50;");
        y.go(50);
        is("3 and 99 and 49950", y.house(0, 0), 50052);
        y.go(50);
        is("twice is above the most", y.house(0, 0), 99999);
        SunBills z = made("kind a 1 1;house h 999 0 99;law price 0-999;term 99;");
        z.go(99);
        is("98901 and 999 and 99 is 99999", z.house(0, 0), 99999);
        z.go(99);
        is("99999 at most", z.house(0, 0), 99999);
        // Earned first, then paid, then cut: nothing is lost between.
        SunBills w = made("kind a 1 1;house h 999 0 99;law price (date >= 99) * 1098 - 999;term 99;");
        w.go(99);
        is("at the most", w.house(0, 0), 99999);
        w.go(98);
        is("a bill of 99 a day", w.house(0, 1), 99 * 98);
        w.go(1);
        is("99999 + 99 - 9801", w.house(0, 0), 99999 + 99 - 9801);
        SunBills v = made("kind a 1 1;house h 999 0 99;law price (date = 99) * 1098 - (date < 99) * 999;term 99;");
        v.go(198);
        is("one bill of 1098, cut to 999", v.house(0, 0), 99999 + 99 - 999);
    }

    private static void soldUp() {
        says("if less than 0 is left, it is SOLD UP (the PURSE stays below 0 like that)");
        SunBills x = made("kind a 10 1;house g 9 1 0;house h 10 1 0;house i 11 1 0;term 1;");
        x.go(1);
        is("-1", x.house(0, 0), -1);
        is("sold up at -1", x.house(0, 5), 1);
        is("0", x.house(1, 0), 0);
        is("not at 0", x.house(1, 5), 0);
        is("1", x.house(2, 0), 1);
        is("not at 1", x.house(2, 5), 0);
        x.go(200);
        is("it stays", x.house(0, 0), -1);
        is("h then", x.house(1, 0), -10);
        is("i then", x.house(2, 0), -9);
        is("sold up for good", x.count(5), 3);
        SunBills y = made("kind a 99 1;house h 0 0 0;law use 99;term 99;");
        y.go(99);
        is("the deepest", y.house(0, 0), -99999);
        y.go(200);
        is("stays", y.house(0, 0), -99999);
    }

    private static void nextDay() {
        says("Then it is the next DAY, nothing is sent.");
        SunBills x = made("kind a 1 0;kind b 2 1;");
        x.send(0);
        is("sent", x.weather(0), 0);
        x.go(1);
        is("day 1", x.count(4), 1);
        is("nothing is sent", x.weather(0), 1);
        x.send(0);
        x.go(3);
        is("one day only", x.kind(0, 2), 2);
        x.send(0);
        is("ahead, too", x.often(0, 5), 1);
    }

    // ---- NAMES and VALUES

    private static void names() {
        says("all as they are by then");
        SunBills x = made("kind a 5 1;kind b 6 0;house h 50 2 3;term 2;law use 4;law price worth;"
            + "law look (purse * 100 + bill) * 100 * 100 + used * 100 + date + 1;");
        is("day 0", x.law(0, 0, 0), 5000L * 10000 + 1);
        x.go(1);
        is("day 1", x.law(0, 0, 0), 5005L * 10000 + 400 + 2);
        x.send(1);
        x.go(1);
        is("day 2: 50 + 3 - 11", x.law(0, 0, 0), 4200L * 10000 + 800 + 3);
        SunBills y = made("kind a 5 7;kind b 99 0;house h 50 9 3;law look weight * 1000 * 10 + worth * 10 + eager;");
        is("of kind a", y.law(0, 0, 0), 70059);
        is("of kind b", y.law(0, 0, 1), 999);
    }

    private static void usedOfPrice() {
        says("used: what it USED so far (of price with this DAY)");
        SunBills x = made("kind a 5 1;house h 50 2 3;law look used = 0 or used = 7;law use used + 7;law price used;");
        x.go(1);
        is("price of 7", x.house(0, 1), 7);
        x.go(1);
        is("used 7 + 14", x.house(0, 2), 21);
        is("price of 21 more", x.house(0, 1), 28);
        x.go(1);
        is("look knew 21", x.house(0, 4), 2);
    }

    private static void truths() {
        says("comparisons, and, or, not are 1 or 0 (what isn't 0 is as 1");
        for (String yes : new String[] {"1", "2", "9999", "(0-1)", "(0-9999)"}) {
            is("not " + yes, value("not " + yes), 0);
            is(yes + " and 1", value(yes + " and 1"), 1);
            is("1 and " + yes, value("1 and " + yes), 1);
            is(yes + " and 0", value(yes + " and 0"), 0);
            is("0 and " + yes, value("0 and " + yes), 0);
            is(yes + " or 0", value(yes + " or 0"), 1);
            is("0 or " + yes, value("0 or " + yes), 1);
            is("not not " + yes, value("not not " + yes), 1);
        }
        is("not 0", value("not 0"), 1);
        is("0 or 0", value("0 or 0"), 0);
        is("0 and 0", value("0 and 0"), 0);
        String[] signs = {"<", "<=", "=", "<>", ">=", ">"};
        int[] less = {1, 1, 0, 1, 0, 0};
        int[] alike = {0, 1, 1, 0, 1, 0};
        int[] more = {0, 0, 0, 1, 1, 1};
        for (int i = 0; i < 6; i++) {
            is("2 " + signs[i] + " 3", value("2" + signs[i] + "3"), less[i]);
            is("3 " + signs[i] + " 3", value("3" + signs[i] + "3"), alike[i]);
            is("4 " + signs[i] + " 3", value("4" + signs[i] + "3"), more[i]);
            is("-4 " + signs[i] + " 3", value("0-4" + signs[i] + "3"), less[i]);
            is("10^12 " + signs[i] + " 10^12-1", value("1000*1000*1000*1000" + signs[i] + "1000*1000*1000*1000-1"), more[i]);
        }
    }

    private static void bothSides() {
        says("both sides are worked out)");
        for (String e : new String[] {"1 or 1/0", "0 and 1/0", "1/0 or 1", "1/0 and 0", "1 or 9999*9999*9999*9999", "0*(1/0)", "not (1/0)", "1/0 < 1",
            "1 = 1/0", "(1/0)-(1/0)", "0 and (0 and (1/0))"}) {
            is(e, value(e), ERROR);
        }
    }

    private static void longs() {
        says("VALUES are longs");
        is("above an int", value("9999*9999*9999"), 999700029999L);
        is("just above an int", value("2048*1024*1024"), 2147483648L);
        is("just an int", value("2048*1024*1024-1"), 2147483647L);
        is("far below", value("0-9999*9999*9999"), -999700029999L);
        is("a comparison", value("4096*1024*1024 = 0"), 0);
        is("a comparison", value("4096*1024*1024 > 0"), 1);
        is("not of 2^32", value("not (4096*1024*1024)"), 0);
        is("2^32 and 2^32", value("4096*1024*1024 and 4096*1024*1024"), 1);
        is("a look of 2^32", looked("law look 4096*1024*1024;"), 1);
    }

    private static void cut() {
        says("/ is cut towards 0");
        is("7/2", value("7/2"), 3);
        is("-7/2", value("(0-7)/2"), -3);
        is("7/-2", value("7/(0-2)"), -3);
        is("-7/-2", value("(0-7)/(0-2)"), 3);
        is("1/2", value("1/2"), 0);
        is("-1/2", value("(0-1)/2"), 0);
        is("8/2", value("8/2"), 4);
        is("0/5", value("0/5"), 0);
    }

    private static void errors() {
        says("ERROR: / by 0, a value above 10 to the 12 or below 0 by more than that.");
        String most = "1000*1000*1000*1000";
        is("1/0", value("1/0"), ERROR);
        is("0/0", value("0/0"), ERROR);
        is("by a name of 0", value("5/bill"), ERROR);
        is("by a difference of 0", value("5/(3-3)"), ERROR);
        is("10^12", value(most), 1000000000000L);
        is("10^12 + 0", value(most + "+0"), 1000000000000L);
        is("10^12 + 1", value(most + "+1"), ERROR);
        is("10^12 - -1", value(most + "-(0-1)"), ERROR);
        is("10^12 - 1 + 1", value(most + "-1+1"), 1000000000000L);
        is("10^12 + 1 - 1", value(most + "+1-1"), ERROR);
        is("-10^12", value("0-" + most), -1000000000000L);
        is("-10^12 - 1", value("0-" + most + "-1"), ERROR);
        is("-10^12 + -1", value("0-" + most + "+(0-1)"), ERROR);
        is("10^12 * 1", value(most + "*1"), 1000000000000L);
        is("10^12 * -1", value(most + "*(0-1)"), -1000000000000L);
        is("-1 * 10^12", value("(0-1)*(" + most + ")"), -1000000000000L);
        is("10^12 * 2", value(most + "*2"), ERROR);
        is("-2 * 10^12", value("(0-2)*(" + most + ")"), ERROR);
        is("10^6 * (10^6 + 1)", value("1000*1000*(1000*1000+1)"), ERROR);
        is("-10^6 * -(10^6 + 1)", value("(0-1000*1000)*(0-1000*1000-1)"), ERROR);
        is("10^12 * 10^12, which no long holds", value("(" + most + ")*(" + most + ")"), ERROR);
        is("10^12 * -10^12", value("(" + most + ")*(0-" + most + ")"), ERROR);
        // 2^32 times 2^32 wraps round to 0 in a long, 2^33 times 2^31 too
        is("2^32 * 2^32", value("(4096*1024*1024)*(4096*1024*1024)"), ERROR);
        is("2^33 * 2^31", value("(8192*1024*1024)*(2048*1024*1024)"), ERROR);
        is("0 * 10^12", value("0*(" + most + ")"), 0);
        is("10^12 * 0", value(most + "*0"), 0);
        is("10^12 / 10^12", value(most + "/(" + most + ")"), 1);
        is("999999999999 / -1", value("(" + most + "-1)/(0-1)"), -999999999999L);
    }

    private static void numbers() {
        says("Numbers are the last one (at first the seed) times 1103515245 and 12345, without what is above 31 bits, by 65536.");
        for (int seed : new int[] {0, 1, 2, 3, 12345, 65535, 65536, 99998, 99999}) {
            BigInteger last = BigInteger.valueOf(seed);
            SunBills x = made("kind a 1 7;kind b 1 11;kind c 1 13;seed " + seed + ";");
            for (int day = 0; day < 60; day++) {
                last = last.multiply(BigInteger.valueOf(1103515245)).add(BigInteger.valueOf(12345)).mod(BigInteger.ONE.shiftLeft(31));
                int left = last.divide(BigInteger.valueOf(65536)).mod(BigInteger.valueOf(31)).intValue();
                is("seed " + seed + ", day " + day, latest(x), left < 7 ? 0 : left < 18 ? 1 : 2);
            }
        }
    }

    private static void asItGoes() {
        says("the WEATHER is then the KIND of most WEIGHT, the first of several");
        is("the last", made("kind a 9 1;kind b 9 2;kind c 9 3;").weather(0), 2);
        is("the first", made("kind a 9 3;kind b 9 2;kind c 9 3;").weather(0), 0);
        is("the second", made("kind a 9 2;kind b 1 3;kind c 9 3;").weather(0), 1);
        is("of 1", made("kind a 9 0;kind b 1 1;kind c 9 1;").weather(0), 1);
        is("of 99", made("kind a 9 98;kind b 1 99;kind c 9 99;").weather(0), 1);
        // As it goes there are no numbers: those of the DAYS are as they were.
        SunBills x = made("kind a 9 5;kind b 1 4;house h 500 1 0;");
        SunBills y = made("kind a 9 5;kind b 1 4;house h 500 1 0;");
        for (int i = 0; i < 20; i++) {
            x.ahead(200, 0, 0);
            x.sold(0);
            x.tried(0, 0, 100);
            x.chance(5, 9, 0);
            x.blinds(60, 0);
            x.rescue();
            x.go(1);
            y.go(1);
            same("day " + i, state(x), state(y));
        }
        // Whatever was asked or done ahead, there are no numbers as it goes.
        SunBills z = made("kind a 9 5;kind b 1 4;house h 500 1 0;term 99;");
        for (int i = 0; i < 4; i++) {
            z.go(3);
            is("behind days", z.ahead(20, 1, 0) - z.house(0, 1), 180);
            z.chance(5, 9, 0);
            is("behind a chance", z.ahead(20, 1, 0) - z.house(0, 1), 180);
            z.chance(5, 9, 0);
            is("behind a chance", z.blinds(60, 1), 0);
            z.chance(5, 9, 0);
            is("behind a chance", z.tried(4, 0, 10), 500 - z.house(0, 1) - 90);
        }
    }

    private static void asItGoesNone() {
        says("(none, if all have 0)");
        SunBills x = made("kind a 9 0;kind b 1 0;house h 5 1 0;day 1 b;");
        is("none", x.weather(0), -2);
        is("told", x.weather(1), 1);
        is("nobody looks", x.ahead(1, 4, 0), 0);
        is("by one told", x.ahead(2, 4, 0), 1);
        is("often", x.often(0, 200), 0);
        x.send(0);
        is("sent", x.weather(0), 0);
        is("no kinds", new SunBills().weather(200), -2);
    }

    // ---- undone, kept

    private static void undone() {
        says("Drawing, sending, lending by call (blinds, what is sent, PURSES) can be undone, the latest first");
        SunBills x = made(TOWN);
        String[] states = new String[8];
        states[0] = state(x);
        for (int i = 1; i < 8; i++) {
            if (i % 3 == 0) {
                x.blind(i % 2);
            } else if (i % 3 == 1) {
                x.send(i % 2);
            } else {
                x.lend(i % 2, 2, i);
            }
            states[i] = state(x);
        }
        for (int i = 6; i >= 0; i--) {
            is("undo", x.undo(), i);
            same("as behind " + i, state(x), states[i]);
        }
        is("no more", x.undo(), -1);
        // Those refused are none of these.
        x.blind(9);
        x.send(9);
        x.lend(0, 1, 999);
        x.lend(0, 0, 1);
        is("nothing was done", x.undo(), -1);
    }

    private static void undoneMost() {
        says("(20 at most)");
        for (int n : new int[] {19, 20, 21, 22, 40, 41, 100}) {
            SunBills x = made(TOWN);
            String[] towns = new String[n + 1];
            towns[0] = town(x);
            for (int i = 1; i <= n; i++) {
                if (i % 4 == 0) {
                    x.lend(i % 8 == 0 ? 0 : 1, i % 8 == 0 ? 1 : 0, 1 + i % 5);
                } else if (i % 4 == 1) {
                    x.send(i % 3);
                } else {
                    x.blind(i % 3);
                }
                is("what can be undone", x.count(12), Math.min(20, i));
                towns[i] = town(x);
            }
            int left = Math.min(20, n);
            for (int i = 1; i <= left; i++) {
                is("undo " + i + " of " + n, x.undo(), left - i);
                same("as behind " + (n - i), town(x), towns[n - i]);
            }
            refused(x, "undo no more", x::undo, -1);
        }
    }

    private static void undoneDay() {
        says("if no DAY went by since.");
        SunBills x = made(TOWN);
        x.blind(0);
        x.send(0);
        x.lend(0, 1, 1);
        is("go(0)", x.go(0), 0);
        is("all three", x.count(12), 3);
        is("go(201)", x.go(201), -1);
        is("all three", x.count(12), 3);
        x.ahead(5, 0, 0);
        x.tried(0, 0, 5);
        x.chance(1, 5, 0);
        is("thought of only", x.count(12), 3);
        x.go(1);
        is("none", x.count(12), 0);
        refused(x, "undo", x::undo, -1);
        is("the blind stays down", x.house(0, 6), 1);
        x.blind(0);
        is("one again", x.undo(), 0);
        is("down", x.house(0, 6), 1);
    }

    private static void imageKeeps() {
        says("An IMAGE keeps all but NOTES.");
        SunBills x = made(TOWN + "seed 77;");
        x.go(3);
        x.blind(1);
        x.send(1);
        x.lend(0, 2, 3);
        x.note(0, 0, 12, true);
        x.keep();
        String then = town(x);
        x.note(1, 0, 12, true);
        x.strike(0);
        x.go(20);
        x.blind(0);
        x.blind(1);
        x.send(2);
        is("back", x.back(), 3);
        is("notes are not", x.count(10), 3);
        is("they count", x.fits(1) * 10 + x.fits(0), 67);
        same("all else is", town(x), then);
        x.go(30);
        String later = town(x);
        x.back();
        x.go(30);
        same("the same numbers come", town(x), later);
        SunBills y = made("kind a 1 0;");
        y.go(3);
        y.keep();
        y.go(5);
        y.back();
        is("days without weather", y.count(9), 3);
    }

    // ---- promises 6 to 13

    private static void house() {
        says("5 whether SOLD UP, 6 whether its blind is down (1, 0).");
        SunBills x = made("kind a 9 1;house g 8 1 0;house h 9 1 0;term 1;");
        is("not yet", x.house(0, 5), 0);
        x.go(1);
        is("sold up", x.house(0, 5), 1);
        is("not", x.house(1, 5), 0);
        is("up", x.house(0, 6), 0);
        x.blind(0);
        is("down", x.house(0, 6), 1);
        is("the other one's is up", x.house(1, 6), 0);
        x.blind(0);
        is("up again", x.house(0, 6), 0);
    }

    private static int thrown(SunBills x, int house, int what) {
        try {
            x.house(house, what);
            return 0;
        } catch (IndexOutOfBoundsException e) {
            return e.getClass() == IndexOutOfBoundsException.class ? 1 : 9;
        } catch (NoSuchElementException e) {
            return e.getClass() == NoSuchElementException.class ? 2 : 9;
        }
    }

    private static void houseNone() {
        says("IndexOutOfBoundsException: no such HOUSE.");
        for (int houses = 0; houses <= 6; houses++) {
            SunBills x = made(SIX_HOUSES.substring(0, houses * 14));
            for (int house : new int[] {LOW, -2, -1, 0, 1, 2, 3, 4, 5, 6, 7, 100, HIGH}) {
                boolean there = house >= 0 && house < houses;
                is("house " + house + " of " + houses, thrown(x, house, 0), there ? 0 : 1);
                is("house " + house + " of " + houses + ", what 6", thrown(x, house, 6), there ? 0 : 1);
            }
        }
    }

    private static void houseWhat() {
        says("NoSuchElementException: no such what.");
        SunBills x = made(TOWN);
        for (int what : new int[] {LOW, -2, -1, 7, 8, 100, HIGH}) {
            is("what " + what, thrown(x, 0, what), 2);
            is("what " + what + " of the last", thrown(x, 2, what), 2);
        }
        for (int what = 0; what < 7; what++) {
            is("what " + what, thrown(x, 2, what), 0);
        }
        String before = state(x);
        thrown(x, 0, 7);
        thrown(x, 3, 0);
        same("all stays", state(x), before);
    }

    private static void kind() {
        says("Of a KIND, what 0 WORTH, 1 WEIGHT, 2 on how many DAYS so far it was the WEATHER. NONE: no such ones.");
        bounds(TOWN, "kind", 0, 2, -1, (x, v) -> x.kind(v, 0));
        bounds(TOWN, "what", 0, 2, -1, (x, v) -> x.kind(0, v));
        bounds(SIX_KINDS, "kind of six", 0, 5, -1, (x, v) -> x.kind(v, 2));
        is("no kinds", new SunBills().kind(0, 0), -1);
        SunBills x = made(TOWN);
        is("so far", x.kind(1, 2), 0);
        x.go(1);
        is("so far", x.kind(1, 2), 1);
    }

    private static void weather() {
        says("The KIND of the DAY so many behind this one (0 .. 200) as it goes; -2: none; NONE: no such number.");
        bounds(TOWN, "weather", 0, 200, -1, SunBills::weather);
        bounds("kind a 9 0;", "weather, none", 0, 200, -1, SunBills::weather);
        is("none", made("kind a 9 0;").weather(200), -2);
        SunBills x = made("kind a 1 1;kind b 1 0;day 99 b;");
        is("99", x.weather(99), 1);
        is("100", x.weather(100), 0);
        x.go(99);
        is("0", x.weather(0), 1);
        is("1", x.weather(1), 0);
        x.go(1);
        is("what is told is gone by", x.weather(0), 0);
    }

    private static void law() {
        says("A law's E now of a HOUSE as if the WEATHER were a KIND (what 0 look, 1 use, 2 price).");
        SunBills x = made("kind a 5 1;kind b 7 0;house h 9 2 1;law look worth;law use worth * 1000;law price 0-worth*1000*1000;day 0 a;");
        is("look", x.law(0, 0, 1), 7);
        is("use, not cut to 99", x.law(1, 0, 1), 7000);
        is("price, not cut to -999", x.law(2, 0, 0), -5000000);
        refused(x, "a law asked for", () -> x.law(1, 0, 0), 5000);
        x.blind(0);
        is("behind a blind", x.law(0, 0, 0), 5);
        SunBills y = made("kind a 50 1;house h 9 2 1;law look purse;term 1;");
        y.go(1);
        is("of one sold up", y.law(0, 0, 0), 9 + 1 - 100);
    }

    private static void lawNone() {
        says("Long.MIN_VALUE: an ERROR, no such law, no such ones.");
        String all = "kind a 5 1;house h 9 2 1;law look 1;law use 2;law price 3;";
        bounds(all, "what", 0, 2, ERROR, (x, v) -> x.law(v, 0, 0));
        bounds(all, "house", 0, 0, ERROR, (x, v) -> x.law(0, v, 0));
        bounds(all, "kind", 0, 0, ERROR, (x, v) -> x.law(0, 0, v));
        is("an error", value("1/0"), ERROR);
        is("an error", value("9999*9999*9999*9999"), ERROR);
        SunBills x = made("kind a 5 1;house h 9 2 1;law use 2;");
        is("no look", x.law(0, 0, 0), ERROR);
        is("use", x.law(1, 0, 0), 2);
        is("no price", x.law(2, 0, 0), ERROR);
        is("no kinds", made("house h 9 2 1;law use 2;").law(1, 0, 0), ERROR);
        is("no houses", made("kind a 5 1;law use 2;").law(1, 0, 0), ERROR);
    }

    private static void blind() {
        says("The blind of a HOUSE is drawn now: 1 it is down then, 0 it is up; NONE: no such HOUSE.");
        bounds(TOWN, "blind", 0, 2, -1, SunBills::blind);
        bounds(SIX_HOUSES, "blind", 0, 5, -1, SunBills::blind);
        is("no houses", new SunBills().blind(0), -1);
        SunBills x = made(TOWN);
        is("down", x.blind(2), 1);
        is("up", x.blind(2), 0);
        is("down", x.blind(2), 1);
    }

    private static void send() {
        says("The WEATHER of this DAY is to be a KIND (in place of one sent ahead): true; false: no such KIND.");
        bounds(TOWN, "send", 0, 2, 0, (x, v) -> x.send(v) ? 1 : 0);
        bounds(SIX_KINDS, "send", 0, 5, 0, (x, v) -> x.send(v) ? 1 : 0);
        is("no kinds", new SunBills().send(0), false);
        SunBills x = made(TOWN);
        x.send(2);
        x.send(0);
        is("in place", x.weather(0), 0);
        is("refused", x.send(3), false);
        is("stays", x.weather(0), 0);
        x.go(1);
        is("0 came", x.kind(0, 2), 1);
        is("2 did not", x.kind(2, 2), 0);
    }

    private static void lend() {
        says("So much 1 .. 999 goes from the PURSE of a HOUSE into another one's");
        bounds("house a 999 0 0;house b 0 0 0;", "lend", 1, 999, -1, (x, v) -> x.lend(0, 1, v));
        SunBills x = made("house a 999 0 0;house b 0 0 0;");
        is("999", x.lend(0, 1, 999), 999);
        is("nothing is left", x.house(0, 0), 0);
        is("1", x.lend(1, 0, 1), 1);
        is("998 are left", x.house(1, 0), 998);
        is("all stays in sum", x.count(6), 999);
    }

    private static void lendMost() {
        says("99999 at most: what is in that one");
        SunBills x = made("kind a 1 1;house g 900 0 0;house h 999 0 99;law price 0 - (eager = 0 and purse <> 900) * 999;law use 0;term 99;");
        x.go(99);
        is("99999", x.house(1, 0), 99999);
        is("no more", x.lend(0, 1, 1), 99999);
        is("it went", x.house(0, 0), 899);
        is("from it", x.lend(1, 0, 5), 904);
        is("99994", x.house(1, 0), 99994);
        is("just as much", x.lend(0, 1, 5), 99999);
        is("from it again", x.lend(1, 0, 5), 904);
        is("one more than fits", x.lend(0, 1, 6), 99999);
        is("898", x.house(0, 0), 898);
        is("undone", x.undo(), 4);
        is("904", x.house(0, 0), 904);
        is("99994", x.house(1, 0), 99994);
    }

    private static void lendNot() {
        says("-2: one of them is SOLD UP, there isn't so much");
        SunBills x = made("kind a 9 1;house g 5 1 0;house h 50 0 0;house i 0 0 0;term 1;");
        refused(x, "51 of 50", () -> x.lend(1, 0, 51), -2);
        refused(x, "1 of 0", () -> x.lend(2, 0, 1), -2);
        is("50 of 50", x.lend(1, 2, 50), 50);
        is("back", x.lend(2, 1, 50), 50);
        x.go(1);
        refused(x, "from one sold up", () -> x.lend(0, 1, 1), -2);
        refused(x, "to one sold up", () -> x.lend(1, 0, 1), -2);
        refused(x, "to one sold up, more than there is", () -> x.lend(1, 0, 999), -2);
        is("others lend", x.lend(1, 2, 1), 1);
        // The PURSE counts, whatever the BILL.
        SunBills y = made("kind a 9 1;house g 5 9 0;house h 50 0 0;");
        y.go(1);
        is("a bill of 81, a purse of 5", y.lend(0, 1, 5), 55);
    }

    private static void lendNone() {
        says("NONE: no such ones, alike.");
        String text = "kind a 9 1;house g 500 0 0;house h 50 0 0;house i 0 9 0;term 1;";
        beyond(text, "from", 0, 2, -1, (x, v) -> x.lend(v, 1, 1));
        beyond(text, "to", 0, 2, -1, (x, v) -> x.lend(0, v, 1));
        beyond(text, "much", 1, 999, -1, (x, v) -> x.lend(0, 1, v));
        SunBills x = made(text);
        x.go(1);
        for (int house = 0; house < 3; house++) {
            int alike = house;
            refused(x, "alike", () -> x.lend(alike, alike, 1), -1);
        }
        refused(x, "0 from one sold up", () -> x.lend(2, 0, 0), -1);
        refused(x, "1000, more than there is", () -> x.lend(1, 0, 1000), -1);
        refused(x, "from none to one sold up", () -> x.lend(3, 2, 1), -1);
        is("no houses", new SunBills().lend(0, 1, 1), -1);
    }

    private static void go() {
        says("So many DAYS (0 .. 200) go by: which one it is; NONE, and none does: no such number, behind 9000.");
        bounds(TOWN, "go", 0, 200, -1, SunBills::go);
        SunBills x = made(TOWN);
        refused(x, "go(0)", () -> x.go(0), 0);
        is("go(1)", x.go(1), 1);
        is("go(199)", x.go(199), 200);
        for (int i = 2; i <= 44; i++) {
            x.go(200);
        }
        is("8800", x.count(4), 8800);
        is("8999", x.go(199), 8999);
        refused(x, "go(2) to 9001", () -> x.go(2), -1);
        refused(x, "go(200)", () -> x.go(200), -1);
        is("9000", x.go(1), 9000);
        refused(x, "go(1)", () -> x.go(1), -1);
        refused(x, "go(0)", () -> x.go(0), 9000);
        // What is only thought of goes on behind 9000.
        is("ahead", x.ahead(200, 0, 2), 0);
        is("term", x.termIn(), 5);
        is("weather", x.weather(200), 0);
        SunBills y = made("kind a 1 1;");
        for (int i = 0; i < 45; i++) {
            y.go(200);
        }
        is("9000 at once", y.count(4), 9000);
        is("all of it", y.kind(0, 2), 9000);
    }

    private static void undo() {
        says("The latest is undone: how many are left; NONE: none.");
        SunBills x = made(TOWN);
        refused(x, "none", x::undo, -1);
        x.blind(0);
        x.blind(1);
        is("one is left", x.undo(), 1);
        is("the latest", x.house(0, 6) * 10 + x.house(1, 6), 10);
        is("none is left", x.undo(), 0);
        refused(x, "none", x::undo, -1);
        is("a new object", new SunBills().undo(), -1);
        // What was undone is not done again.
        x.send(2);
        x.undo();
        refused(x, "none", x::undo, -1);
    }

    private static void keep() {
        says("An IMAGE is kept (in place of one ahead): which DAY it is.");
        SunBills x = made(TOWN);
        is("0", x.keep(), 0);
        x.go(7);
        is("7", x.keep(), 7);
        x.go(1);
        is("the later one", x.back(), 7);
        x.go(2);
        is("it stays", x.back(), 7);
        x.blind(0);
        is("nothing else changes", x.keep(), 7);
        is("to undo", x.count(12), 1);
        is("a new object", new SunBills().keep(), 0);
    }

    private static void back() {
        says("All (but NOTES) is as in the IMAGE (nothing to undo then): which DAY it is; NONE: there is none.");
        SunBills x = made(TOWN);
        refused(x, "none", x::back, -1);
        x.blind(0);
        x.keep();
        x.blind(1);
        is("day 0", x.back(), 0);
        is("nothing to undo", x.count(12), 0);
        refused(x, "undo", x::undo, -1);
        is("as in the image", x.house(0, 6) * 10 + x.house(1, 6), 10);
        x.go(9);
        is("again", x.back(), 0);
        is("a text with a fault", read(x, "#"), -1);
        is("the image stays", x.back(), 0);
        x.text(0);
        refused(x, "behind a text", x::back, -1);
    }
}
