import java.util.NoSuchElementException;

/** Each promise by its own words: ordinary calls, the edges that the document names, and wrong ones. */
public final class PromisesTest extends Checks {
    public static void main(String[] args) {
        newObject();
        feed();
        text();
        fault();
        faultsOfLines();
        faultsOfLaws();
        named();
        house();
        kind();
        weather();
        law();
        signs();
        errors();
        blind();
        send();
        lend();
        go();
        goByNumbers();
        goByLaws();
        terms();
        ahead();
        sold();
        credit();
        plan();
        share();
        waits();
        came();
        likely();
        rests();
        rest();
        richest();
        leave();
        blinds();
        among();
        rescue();
        termIn();
        often();
        owes();
        have();
        dearest();
        note();
        strike();
        known();
        fits();
        ask();
        chance();
        tried();
        undo();
        keep();
        back();
        count();
        end("promises");
    }

    // ---- promises 1 to 5

    private static void newObject() {
        promise(1);
        SunBills x = new SunBills();
        for (int what = 0; what <= 12; what++) {
            is("count(" + what + ")", x.count(what), 0);
        }
        is("text(1)", x.text(1), -2);
        is("fault(0)", x.fault(0), 0);
        is("fault(1)", x.fault(1), -1);
        is("termIn()", x.termIn(), 30);
        is("weather(0)", x.weather(0), -2);
        is("back()", x.back(), -1);
        is("undo()", x.undo(), -1);
        is("NONE", SunBills.NONE, -1);
    }

    private static void feed() {
        promise(2);
        SunBills x = new SunBills();
        for (int i = 1; i <= 35; i++) {
            is("feed " + i, x.feed(0x7465726d, 0x20393b20, 0x20202020, 0x0a0a0a0a, 0x20202020), 20 * i);
        }
        is("feed beyond 700", x.feed(0, 0, 0, 0, 0), -1);
        is("feed beyond 700 again", x.feed(0, 0, 0, 0, 0), -1);
        is("text(701)", x.text(701), -2);
        is("text(20)", x.text(20), 1);
        is("termIn() of the bytes in order", x.termIn(), 9);
        is("feed behind it", x.feed(-1, -1, -1, -1, -1), 20);
        is("text of bytes 255", x.text(20), -1);
        is("fault", x.fault(0), 1);
        // whole 700 bytes, the last of which counts
        StringBuilder long700 = new StringBuilder("term 8");
        while (long700.length() < 699) {
            long700.append(' ');
        }
        is("a text of 700", read(x, long700.append(';').toString()), 1);
        is("termIn()", x.termIn(), 8);
    }

    private static void text() {
        promise(3);
        SunBills x = new SunBills();
        is("text(0)", x.text(0), 0);
        is("text(-1)", x.text(-1), -2);
        is("13 lines", read(x, TOWN + "seed 0;"), 13);
        x.go(7);
        x.note(0, 0, 1, true);
        x.known(0);
        x.keep();
        x.blind(0);
        x.send(0);
        x.lend(2, 0, 1);
        is("a text with a fault", read(x, "kind"), -1);
        is("the day stays", x.count(4), 7);
        is("what can be undone stays", x.count(12), 2);
        is("notes stay", x.count(10), 1);
        is("the tape is empty behind a fault", x.text(1), -2);
        x.feed(0x7465726d, 0x2039, 0, 0, 0);
        is("more than there are", x.text(21), -2);
        is("the tape stays", x.feed(0, 0, 0, 0, 0), 40);
        x.text(0);
        is("only the first n bytes, then none", x.text(1), -2);
        is("kinds are gone", x.count(0), 0);
        read(x, TOWN);
        x.go(9);
        x.note(1, 0, 1, true);
        x.known(0);
        x.keep();
        x.blind(1);
        x.send(0);
        read(x, TOWN);
        is("day", x.count(4), 0);
        is("purses", x.count(6), 70);
        is("bills", x.count(7), 0);
        is("looked", x.count(8), 0);
        is("sold up", x.count(5), 0);
        is("notes", x.count(10), 0);
        is("all known", x.note(0, 0, 0, true) == 0 && x.fits(0) == 4, true);
        is("to undo", x.count(12), 0);
        is("image", x.back(), -1);
        is("sent", x.weather(0), 1);
        is("blind", x.house(1, 6), 0);
        is("used", x.house(0, 2), 0);
        is("times", x.kind(1, 2), 0);
        is("days without weather", x.count(9), 0);
        is("blanks and no blanks", read(x, "kind a1 2;\n kind\nb 3\n\n4 ; house a 007 8 9;term5;"), 4);
        is("leading noughts", x.house(0, 0), 7);
        is("term 5", x.termIn(), 5);
        // What an earlier TEXT told is gone, however many came between.
        String six = "kind a 5 1;house a 9 1 1;house b 9 1 1;work a a;work b a;work a a;law look 1;law use 2;law price 3;term 2;day 1 a;";
        for (int i = 0; i < 3; i++) {
            read(x, six);
            is("three laid", x.plan(8, 6), 3);
        }
        for (int i = 0; i < 3; i++) {
            is("a smaller one", read(x, "kind a 5 1;house a 7 1 1;work a a;"), 3);
            is("one purse", x.count(6), 7);
            is("no laws", x.count(3), 0);
            is("no look", x.law(0, 0, 0), Long.MIN_VALUE);
            is("no price", x.law(2, 0, 0), Long.MIN_VALUE);
            is("one work", x.plan(1, 0) * 10 + x.plan(1, 6), 1);
            is("no day for it", x.plan(0, 0), -2);
        }
    }

    private static void fault() {
        promise(4);
        SunBills x = new SunBills();
        read(x, "kind a 1 1; kind a 2 2;");
        is("fault(0)", x.fault(0), 3);
        is("fault(1)", x.fault(1), 17);
        is("fault(2)", x.fault(2), -1);
        is("fault(-1)", x.fault(-1), -1);
        x.text(9);
        is("text that is -2 leaves it", x.fault(0), 3);
        x.text(-9);
        is("so does one below 0", x.fault(1), 17);
        x.text(0);
        is("none", x.fault(0), 0);
        is("no place", x.fault(1), -1);
    }

    private static void faultsOfLines() {
        promise(4);
        faulty("A", 1, 0);
        faulty("\t", 1, 0);
        faulty("  ;", 1, 2);
        faulty("worth 1;", 1, 0);
        faulty("x 1;", 1, 0);
        faulty("12;", 1, 0);
        faulty("kind abcdefg 1 1;", 1, 5);
        faulty("kind day 1 1;", 1, 5);
        faulty("kind weight 1 1;", 1, 5);
        faulty("kind or 1 1;", 1, 5);
        faulty("kind a b 1;", 1, 7);
        faulty("kind a 1;", 1, 8);
        faulty("kind a 1 1 1;", 1, 11);
        faulty("kind a 1 1 \n", 1, 12);
        faulty("kind a 1 1", 1, 10);
        faulty("kind a -1 1;", 1, 7);
        faulty("kind a 100 100;", 2, 7);
        faulty("kind a 1 99999999999999999999;", 2, 9);
        faulty("kind a 1 100;", 2, 9);
        faulty("kind a 1 1;day 5 1;", 1, 17);
        faulty("kind a 1 1;day 5 day;", 1, 17);
        faulty("house b 1 1 1;work b 1;", 1, 21);
        faulty("kind a 1 1;house b 1 1 1;work 1 a;", 1, 30);
        faulty("house a 1 1;", 1, 11);
        faulty("house a 1;", 1, 9);
        faulty("house a;", 1, 7);
        faulty("house a 999 9 99;house a 1 1 1;", 3, 23);
        faulty("house a 1000 1 1;", 2, 8);
        faulty("house a 0 10 1;", 2, 10);
        faulty("house a 0 0 100;", 2, 12);
        faulty("house use 1 1 1;", 1, 6);
        faulty("kind a 1 1;day 100 a;", 2, 15);
        faulty("kind a 1 1;day 99 b;", 4, 18);
        faulty("day 5 a;kind a 1 1;", 4, 6);
        faulty("kind a 1 1;day 5 a;day 05 b;", 3, 23);
        faulty("kind a 1 1;work a a;", 4, 16);
        faulty("kind a 1 1;house b 1 1 1;work b b;", 4, 32);
        faulty("work 1 1;", 1, 5);
        faulty("term 0;", 2, 5);
        faulty("term 100;", 2, 5);
        faulty("term a;", 1, 5);
        faulty("term 3;term;", 3, 7);
        faulty("seed 100000;", 2, 5);
        faulty("seed 0;seed 0;", 3, 7);
        faulty("term 3;seed 0;term 3;", 3, 14);
        StringBuilder six = new StringBuilder();
        for (char c = 'a'; c < 'g'; c++) {
            six.append("kind ").append(c).append(" 1 1;");
        }
        faulty(six + "kind", 2, 66);
        faulty(six + "day 1 g;", 4, 72);
        StringBuilder sixHouses = new StringBuilder();
        for (char c = 'a'; c < 'g'; c++) {
            sixHouses.append("house ").append(c).append(" 1 1 1;");
        }
        faulty(sixHouses + " house a", 2, 85);
        SunBills x = made(six.toString() + sixHouses + "work a a;work a a;work a a;work a a;work a a;work a a;");
        is("six works", x.count(2), 6);
        faulty(six.toString() + sixHouses + "work a a;work a a;work a a;work a a;work a a;work a a;work", 2, 66 + 84 + 54);
        StringBuilder days = new StringBuilder("kind a 1 1;");
        for (int i = 0; i < 20; i++) {
            days.append("day ").append(99 - i).append(" a;");
        }
        made(days.toString());
        faulty(days + "day 1 a;", 2, days.length());
    }

    private static void faultsOfLaws() {
        promise(4);
        faulty("law 1;", 1, 4);
        faulty("law worth 1;", 1, 4);
        faulty("law", 1, 3);
        faulty("law use", 1, 7);
        faulty("law use ;", 1, 8);
        faulty("law use 1", 1, 9);
        faulty("law use 1 2;", 1, 10);
        faulty("law use 10000;", 2, 8);
        faulty("law use 9999 + 10000;", 2, 15);
        faulty("law use sun;", 1, 8);
        faulty("law use kind;", 1, 8);
        faulty("law use worthy;", 1, 8);
        faulty("law use 1 < 2 < 3;", 1, 14);
        faulty("law use 1 == 2;", 1, 11);
        faulty("law use 1 < = 2;", 1, 12);
        faulty("law use 1 =< 2;", 1, 11);
        faulty("law use 1 > < 2;", 1, 12);
        faulty("law use 1 ><2;", 1, 11);
        faulty("law use 1 + not 2;", 1, 12);
        faulty("law use 1 = not 2;", 1, 12);
        faulty("law use 1 not 2;", 1, 10);
        faulty("law use -1;", 1, 8);
        faulty("law use (1;", 1, 10);
        faulty("law use (1", 1, 10);
        faulty("law use 1);", 1, 9);
        faulty("law use ();", 1, 9);
        faulty("law use 1 (2);", 1, 10);
        faulty("law use 1 and;", 1, 13);
        faulty("law use or 1;", 1, 8);
        faulty("law use 1;law look 1;law use 1;", 3, 25);
        faulty("law use ((((((((1))))))));law price (((((((((1", 2, 44);
        made("law use (1)+(2)+(3)+(4)+(5)+(6)+(7)+(8)+(9)+((((((((1))))))));");
        StringBuilder most = new StringBuilder("law look 1;law use 1");
        for (int i = 0; i < 31; i++) {
            most.append("+1");
        }
        SunBills x = made(most + ";");
        is("64 knots", x.count(3), 64);
        read(x, "kind a 1 1;house h 1 1 1;" + most + ";");
        is("all of them count", x.law(1, 0, 0), 32);
        StringBuilder nots = new StringBuilder();
        for (int i = 0; i < 63; i++) {
            nots.append("not ");
        }
        is("63 nots", value(nots + "0"), 1);
        is("8 open, 55 nots", value("((((((((" + nots.substring(32) + "1))))))))"), 0);
        x = new SunBills();
        x.feed(0x6c617720, 0x75736520, 0x313c3d32, 0x3b202020, 0x20202020);
        is("what is behind the n bytes doesn't count", x.text(10), -1);
        is("the length", x.fault(1), 10);
        faulty(most + "+1;", 2, most.length());
        faulty(most + ";law price (1);", 2, most.length() + 12);
        faulty(most + ";law price 1);", 2, most.length() + 11);
        faulty(most + ";law price ;", 1, most.length() + 11);
        faulty(most + "<1<1;", 2, most.length());
    }

    private static void named() {
        promise(5);
        SunBills x = made("kind sun 1 1;kind a 1 1;house a 1 1 1;house abcdef 1 1 1;house sun 1 1 1;");
        is("kind sun", x.named(0, letters("sun")), 0);
        is("kind a", x.named(0, 1 << 25), 1);
        is("house a", x.named(1, 1 << 25), 0);
        is("house abcdef", x.named(1, letters("abcdef")), 1);
        is("house sun", x.named(1, letters("sun")), 2);
        is("kind abcdef", x.named(0, letters("abcdef")), -1);
        is("no letters", x.named(0, 0), -1);
        is("a at the end", x.named(0, 1), -1);
        is("with bits above", x.named(0, 1 << 25 | 1 << 30), -1);
        is("below 0", x.named(1, -1), -1);
        is("what 2", x.named(2, 1 << 25), -1);
        is("what -1", x.named(-1, 1 << 25), -1);
    }

    // ---- promises 6 to 13

    private static int houseThrows(SunBills x, int house, int what) {
        try {
            x.house(house, what);
            return 0;
        } catch (IndexOutOfBoundsException e) {
            return e.getClass() == IndexOutOfBoundsException.class ? 1 : 9;
        } catch (NoSuchElementException e) {
            return 2;
        }
    }

    private static void house() {
        promise(6);
        SunBills x = made(TOWN);
        x.go(1);
        x.blind(1);
        is("purse", x.house(0, 0), 50);
        is("bill", x.house(0, 1), 12);
        is("used", x.house(0, 2), 3);
        is("eager", x.house(1, 3), 6);
        is("looked", x.house(0, 4), 1);
        is("sold up", x.house(0, 5), 0);
        is("blind", x.house(1, 6), 1);
        is("blind of another", x.house(0, 6), 0);
        x.blind(1);
        x.go(200);
        is("sold up later", x.house(0, 5), 1);
        is("house 3", houseThrows(x, 3, 0), 1);
        is("house -1", houseThrows(x, -1, 0), 1);
        is("what 7", houseThrows(x, 0, 7), 2);
        is("what -1", houseThrows(x, 2, -1), 2);
        is("neither", houseThrows(x, 3, 7), 1);
    }

    private static void kind() {
        promise(7);
        SunBills x = made(TOWN);
        x.go(1);
        is("worth", x.kind(0, 0), 10);
        is("weight", x.kind(1, 1), 3);
        is("times", x.kind(1, 2), 1);
        is("times of another", x.kind(0, 2), 0);
        is("kind 3", x.kind(3, 0), -1);
        is("kind -1", x.kind(-1, 0), -1);
        is("what 3", x.kind(0, 3), -1);
        is("what -1", x.kind(0, -1), -1);
    }

    private static void weather() {
        promise(8);
        SunBills x = made("kind a 1 4;kind b 1 7;kind c 1 7;day 2 a;day 99 c;");
        is("the heaviest, the first of several", x.weather(0), 1);
        is("told", x.weather(2), 0);
        is("told of day 99", x.weather(99), 2);
        is("day 100", x.weather(100), 1);
        is("200", x.weather(200), 1);
        is("201", x.weather(201), -1);
        is("-1", x.weather(-1), -1);
        x.go(1);
        is("told of day 2 from day 1", x.weather(1), 0);
        x.send(2);
        is("sent", x.weather(0), 2);
        is("sent for one day only", x.weather(2), 1);
        x.go(1);
        x.send(1);
        is("sent ahead of told", x.weather(0), 1);
        x = made("kind a 1 0;kind b 5 0;day 1 b;");
        is("no weights", x.weather(0), -2);
        is("no weights, but told", x.weather(1), 1);
    }

    private static void law() {
        promise(9);
        SunBills x = made("kind a 5 6;kind b 7 8;house h 11 2 3;house i 22 4 3;"
            + "law look worth * 1000 + weight;law use purse * 10 + eager;law price bill * 100 * 100 + used * 100 + date;");
        is("look of a", x.law(0, 0, 0), 5006);
        is("look of b", x.law(0, 0, 1), 7008);
        is("use", x.law(1, 1, 0), 224);
        is("price", x.law(2, 0, 0), 0);
        x.send(0);
        x.go(1);
        // it used 99 (112 is cut to that), and price was 9900 then, cut to 999
        is("price behind a day", x.law(2, 0, 0), 9990000 + 9900 + 1);
        is("price of another", x.law(2, 1, 1), 9990000 + 9900 + 1);
        is("what 3", x.law(3, 0, 0), Long.MIN_VALUE);
        is("what -1", x.law(-1, 0, 0), Long.MIN_VALUE);
        is("house 2", x.law(0, 2, 0), Long.MIN_VALUE);
        is("house -1", x.law(0, -1, 0), Long.MIN_VALUE);
        is("kind 2", x.law(0, 0, 2), Long.MIN_VALUE);
        is("kind -1", x.law(0, 0, -1), Long.MIN_VALUE);
        x = made("kind a 5 6;house h 11 2 3;law use 7;");
        is("no such law", x.law(0, 0, 0), Long.MIN_VALUE);
        is("no such law", x.law(2, 0, 0), Long.MIN_VALUE);
        is("that law", x.law(1, 0, 0), 7);
    }

    private static void signs() {
        promise(9);
        is("*", value("2+3*4"), 14);
        is("( )", value("(2+3)*4"), 20);
        is("- from the left", value("10-3-2"), 5);
        is("/ from the left", value("100/5*2"), 40);
        is("/ cut", value("7/2"), 3);
        is("/ cut towards 0", value("(0-7)/2"), -3);
        is("<", value("1<2"), 1);
        is("< alike", value("2<2"), 0);
        is("<=", value("2<=2"), 1);
        is("=", value("2=3"), 0);
        is("<>", value("2<>3"), 1);
        is(">=", value("3>=3"), 1);
        is(">", value("3>3"), 0);
        is("< right ahead of (", value("1<(2>1)+1"), 1);
        is("and", value("2 and 3"), 1);
        is("and 0", value("2 and 0"), 0);
        is("1 and 1", value("1 and 1"), 1);
        is("or in ( )", value("(0 or 1)+1"), 2);
        is("or in ( ) ahead of and", value("(1 or 0) and 0"), 0);
        is("or", value("0 or 7"), 1);
        is("or 0", value("0 or 0"), 0);
        is("not", value("not 5"), 0);
        is("not not", value("not not 5"), 1);
        is("not binds less than =", value("not 0 = 5"), 1);
        is("not binds more than and", value("not 0 and 0"), 0);
        is("and ahead of or", value("1 or 0 and 0"), 1);
        is("+ ahead of <", value("1+1<1+2"), 1);
        is("a comparison in ( )", value("(1<2)<3"), 1);
        is("names", value("worth*1000*100+weight*1000*10+eager*1000+purse*10+bill+used+date"), 562110);
        is("blanks not needed", value("2and3or not 0"), 1);
    }

    private static void errors() {
        promise(9);
        long error = Long.MIN_VALUE;
        is("/ 0", value("1/0"), error);
        is("0 / 0", value("0/(1-1)"), error);
        is("10 to the 12", value("1000*1000*1000*1000"), 1000000000000L);
        is("and 1", value("1000*1000*1000*1000+1"), error);
        is("by a sum", value("1000*1000*1000*999+1000*1000*1000"), 1000000000000L);
        is("below 0", value("0-1000*1000*1000*1000"), -1000000000000L);
        is("below 0 by a product", value("(0-1000*1000)*(1000*1000)"), -1000000000000L);
        is("below 0 by a product, right", value("1000*1000*(0-1000*1000)"), -1000000000000L);
        is("of two below 0", value("(0-1000*1000)*(0-1000*1000)"), 1000000000000L);
        is("of two below 0, too much", value("(0-1000*1000)*(0-1000*1000-1)"), error);
        is("below 0 by more", value("0-1000*1000*1000*1000-1"), error);
        is("a product far above", value("9999*9999*9999*9999*9999*9999"), error);
        is("a product far below", value("(0-9999*9999*9999)*(9999*9999*9999)"), error);
        is("less again later", value("1000*1000*1000*1000+1-1"), error);
        is("both sides of or", value("1 or 1/0"), error);
        is("both sides of and", value("0 and 1/0"), error);
        is("times 0", value("0*(1000*1000*1000*1000)"), 0);
        is("0 times an error", value("0*(1/0)"), error);
        is("not of an error", value("not (1/0)"), error);
        is("a comparison of errors", value("1/0 = 1/0"), error);
    }

    private static void blind() {
        promise(10);
        SunBills x = made(TOWN);
        is("down", x.blind(0), 1);
        is("house", x.house(0, 6), 1);
        x.go(1);
        is("it does not look", x.house(0, 4) + x.house(0, 1) + x.house(0, 2), 0);
        is("another looks", x.house(1, 4), 1);
        is("up", x.blind(0), 0);
        x.go(1);
        is("it looks", x.house(0, 4), 1);
        is("house 3", x.blind(3), -1);
        is("house -1", x.blind(-1), -1);
        x.go(200);
        is("of one sold up", x.blind(1), 1);
    }

    private static void send() {
        promise(11);
        SunBills x = made(TOWN);
        is("send(2)", x.send(2), true);
        is("send(0)", x.send(0), true);
        is("in place of one sent ahead", x.weather(0), 0);
        is("send(3)", x.send(3), false);
        is("send(-1)", x.send(-1), false);
        is("stays", x.weather(0), 0);
        x.go(1);
        is("the weather was it, ahead of one told", x.kind(0, 2), 1);
        is("the bill is of it", x.house(0, 1), 30);
        x = made("kind a 3 0;kind b 4 0;house h 9 1 0;");
        x.send(1);
        x.go(2);
        is("a kind without weight, one day", x.kind(1, 2), 1);
        is("then none", x.count(9), 1);
    }

    private static void lend() {
        promise(12);
        SunBills x = made("kind a 9 1;house h 999 0 0;house i 5 9 0;house j 7 0 99;term 1;");
        is("lend", x.lend(0, 1, 4), 9);
        is("from", x.house(0, 0), 995);
        is("all there is", x.lend(1, 2, 9), 16);
        is("nothing is left", x.lend(1, 2, 1), -2);
        is("more than there is", x.lend(0, 2, 996), -2);
        is("0", x.lend(0, 1, 0), -1);
        is("1000", x.lend(0, 1, 1000), -1);
        is("-1", x.lend(0, 1, -1), -1);
        is("alike", x.lend(0, 0, 1), -1);
        is("house 3", x.lend(3, 0, 1), -1);
        is("to house 3", x.lend(0, 3, 1), -1);
        is("to house -1", x.lend(0, -1, 1), -1);
        is("nothing came of these", x.count(12), 2);
        x.go(1);
        is("one is sold up", x.house(1, 5), 1);
        is("from one sold up", x.lend(1, 0, 1), -2);
        is("to one sold up", x.lend(0, 1, 1), -2);
        is("sold up, but alike", x.lend(1, 1, 1), -1);
        for (int i = 0; i < 10; i++) {
            x.go(200);
        }
        is("99999 at most is earned", x.house(2, 0), 99999);
        is("99999 at most is in it", x.lend(0, 2, 995), 99999);
        is("it went from the other one", x.house(0, 0), 0);
        is("undone", x.undo(), 0);
        is("all of it is back", x.house(0, 0), 995);
        is("there, too", x.house(2, 0), 99999);
    }

    private static void go() {
        promise(13);
        SunBills x = made("house h 1 1 1;");
        is("go(0)", x.go(0), 0);
        is("go(200)", x.go(200), 200);
        is("go(201)", x.go(201), -1);
        is("go(-1)", x.go(-1), -1);
        is("none went by", x.count(4), 200);
        for (int i = 2; i < 45; i++) {
            x.go(200);
        }
        is("go to 9000", x.go(200), 9000);
        is("behind 9000", x.go(1), -1);
        is("go(0) at 9000", x.go(0), 9000);
        is("without weather", x.count(9), 9000);
        x = made(TOWN);
        x.blind(0);
        x.go(0);
        is("no day went by", x.count(12), 1);
        x.go(201);
        is("no day went by either", x.count(12), 1);
        x.go(1);
        is("a day went by", x.count(12), 0);
    }

    private static void goByNumbers() {
        promise(13);
        // By the rule: 12345, 1406932606, 654583775, 1449466924, 229283573, 1109335178 by 65536, modulo 9.
        int[] numbers = {0, 21468, 9988, 22117, 3498, 16927};
        SunBills x = made("kind s 10 5;kind r 4 3;kind m 0 1;");
        int[] times = new int[3];
        for (int number : numbers) {
            int left = number % 9;
            times[left < 5 ? 0 : left < 8 ? 1 : 2]++;
            x.go(1);
            for (int k = 0; k < 3; k++) {
                is("times of " + k + " behind number " + number, x.kind(k, 2), times[k]);
            }
        }
        // No number for what is told or sent: the first number is of the first other day.
        SunBills y = made("kind s 10 5;kind r 4 3;kind m 0 1;day 0 m;");
        y.go(1);
        y.send(1);
        y.go(1);
        y.go(4);
        is("m by told alone", y.kind(2, 2), 1);
        is("s, s, r, ...", y.kind(0, 2) * 10 + y.kind(1, 2), countOf(numbers, 4, 0) * 10 + countOf(numbers, 4, 1) + 1);
        // No number where one kind alone has a weight: those with other seeds go alike.
        SunBills z = made("kind s 10 0;kind r 4 3;kind m 0 0;seed 77;");
        z.go(50);
        is("r alone", z.kind(1, 2), 50);
        z = made("kind a 1 1;kind b 1 1;seed 1;");
        z.go(1);
        // 1103527590 / 65536 is 16838, even
        is("by the seed", z.kind(0, 2), 1);
        z = made("kind a 1 1;kind b 1 1;seed 3;");
        z.go(1);
        // (3 * 1103515245 + 12345) mod 2^31 is 1163074432, by 65536 17747, odd
        is("by another seed", z.kind(1, 2), 1);
    }

    private static int countOf(int[] numbers, int n, int kind) {
        int found = 0;
        for (int i = 0; i < n; i++) {
            int left = numbers[i] % 9;
            if ((left < 5 ? 0 : left < 8 ? 1 : 2) == kind) {
                found++;
            }
        }
        return found;
    }

    private static void goByLaws() {
        promise(13);
        SunBills x = made("kind s 10 1;house a 100 2 7;law look date <> 1;law use eager + date;law price worth * 3 - used * 2;term 99;");
        x.go(1);
        is("used", x.house(0, 2), 2);
        is("price knows what was used this day", x.house(0, 1), 26);
        x.go(1);
        is("it did not look", x.house(0, 4), 1);
        is("nothing more", x.house(0, 1), 26);
        x.go(1);
        is("used 4 more", x.house(0, 2), 6);
        is("18 more", x.house(0, 1), 44);
        x = made("kind s 10 1;house a 100 2 7;law look 1/0;law use 1/0;law price 1/0;term 99;");
        x.go(1);
        is("looks with an error", x.house(0, 4), 1);
        is("eager with an error", x.house(0, 2), 2);
        is("worth times used with an error", x.house(0, 1), 20);
        x = made("kind s 99 1;house a 100 2 7;law use 100;term 99;");
        x.go(2);
        is("99 at most", x.house(0, 2), 198);
        is("however much", x.house(0, 1), 2 * 99 * 99);
        x.go(18);
        is("a bill of 99999 at most", x.house(0, 1), 99999);
        x = made("kind s 99 1;house a 100 2 7;law use 0-1;law price 0-1000;term 99;law look 0-1;");
        x.go(1);
        is("looks below 0, too", x.house(0, 4), 1);
        is("0 at least", x.house(0, 2), 0);
        is("-999 at least", x.house(0, 1), -999);
        x = made("kind s 99 1;house a 100 2 7;law price 1000;term 99;law look worth - 98;");
        x.go(1);
        is("999 at most", x.house(0, 1), 999);
        x = made("kind s 1 1;house a 999 2 99;law use 99;law price 0-999;term 99;law look date < 1200;");
        for (int i = 0; i < 8; i++) {
            x.go(99);
            is("99999 at most is left", x.house(0, 0), Math.min(99999, 999 + (i + 1) * (99 + 999 * 99)));
        }
        for (int i = 0; i < 6; i++) {
            x.go(99);
        }
        is("99999 used at most", x.house(0, 2), 99999);
        x = made("kind s 2 1;house a 0 9 0;law use purse;law price 0 - 999;term 99;law look bill > 0-999*100;");
        x.go(98);
        is("bill by look", x.house(0, 1), -999 * 98);
        x = made("kind s 2 1;house a 5 3 0;house b 7 4 0;law use purse;law price bill + 1;term 99;");
        x.go(3);
        is("each house for itself", x.house(0, 2) * 100 + x.house(1, 2), 1521);
        is("bill as it is by then", x.house(0, 1), 7);
        x = made("kind s 0 1;house a 0 0 0;law price 0-999;term 99;");
        x.go(98);
        SunBills y = made("kind s 0 1;house a 0 0 0;law price 0-999;law use 0;term 1;");
        y.go(200);
        is("purse by credit", y.house(0, 0), 99999);
        is("below 0 the bill is -97902", x.house(0, 1), -97902);
    }

    private static void terms() {
        promise(13);
        SunBills x = made("kind s 10 1;house a 20 2 5;house b 0 1 10;house c 14 2 5;term 2;");
        x.go(1);
        is("not yet paid", x.house(0, 0), 20);
        x.go(1);
        is("20 + 5 - 40", x.house(0, 0), -15);
        is("sold up", x.house(0, 5), 1);
        is("no bill then", x.house(0, 1), 0);
        is("0 + 10 - 20", x.house(1, 0), -10);
        x = made("kind s 10 1;house a 35 2 5;house b 34 2 5;term 2;");
        x.go(2);
        is("just paid", x.house(0, 0), 0);
        is("not sold up at 0", x.house(0, 5), 0);
        is("one short", x.house(1, 0), -1);
        is("sold up", x.house(1, 5), 1);
        x.go(2);
        is("its purse stays", x.house(1, 0), -1);
        is("it looks no more", x.house(1, 4), 2);
        is("nothing used more", x.house(1, 2), 4);
        x = made("house a 3 2 5;");
        x.go(29);
        is("term 30", x.house(0, 0), 3);
        x.go(1);
        is("earned without weather", x.house(0, 0), 8);
        x = made("kind s 10 1;house a 50 2 5;term 1;");
        x.blind(0);
        x.go(1);
        is("earned behind the blind", x.house(0, 0), 55);
    }

    // ---- promises 14 to 25

    private static void ahead() {
        promise(14);
        SunBills x = made(TOWN);
        is("purse", x.ahead(4, 0, 0), 50);
        is("purse at the term", x.ahead(5, 0, 0), -42);
        is("bill", x.ahead(2, 1, 1), 84);
        is("used", x.ahead(2, 2, 1), 12);
        is("sold up", x.ahead(5, 3, 77), 2);
        is("looked", x.ahead(3, 4, -5), 9);
        is("looked, no more of those sold up", x.ahead(200, 4, 0), 15 + 195);
        is("0 days", x.ahead(0, 0, 1), 20);
        is("nothing changed", x.count(4), 0);
        is("201", x.ahead(201, 3, 0), LOW);
        is("-1", x.ahead(-1, 3, 0), LOW);
        is("what 5", x.ahead(1, 5, 0), LOW);
        is("what -1", x.ahead(1, -1, 0), LOW);
        is("house 3", x.ahead(1, 2, 3), LOW);
        is("house -1", x.ahead(1, 0, -1), LOW);
        x.go(1);
        is("looked more", x.ahead(1, 4, 0), 3);
        x.send(2);
        is("sent", x.ahead(1, 1, 0), 12);
        is("sent, one day", x.ahead(2, 1, 0), 42);
        x.go(1);
        is("numbers are as before", x.kind(2, 2), 1);
    }

    private static void sold() {
        promise(15);
        SunBills x = made(TOWN);
        is("5", x.sold(0), 5);
        is("not by then", x.sold(2), -2);
        is("house 3", x.sold(3), -1);
        is("house -1", x.sold(-1), -1);
        x.go(5);
        is("it is", x.sold(0), 0);
        // 198 days of 1 cost more than there is: paid at the term of day 198 (two terms of 99)
        x = made("kind s 1 1;house a 197 1 0;house b 196 1 0;house c 198 1 0;term 99;");
        is("198 days are too many", x.sold(0), 198);
        is("198 days, too", x.sold(1), 198);
        is("not by then", x.sold(2), -2);
        x = made("kind s 1 1;house a 99 1 0;term 50;");
        x.blind(0);
        x.go(1);
        x.blind(0);
        is("not at the terms of 50 and 100, but of 150", x.sold(0), 149);
        x = made("kind s 1 1;house a 199 1 0;term 1;");
        is("in 200 days only", x.sold(0), -2);
        x = made("kind s 1 1;house a 198 1 0;term 1;");
        is("in 199 days", x.sold(0), 199);
    }

    private static void credit() {
        promise(16);
        SunBills x = made("kind s 0 1;house a 0 1 0;law price 2 - date;term 99;");
        // 2, 1, 0, -1, -2, -3: in sum 2 3 3 2 0 -3
        is("in 6 days", x.credit(0), 6);
        x.go(6);
        is("it is", x.credit(0), 0);
        x = made(TOWN);
        is("never", x.credit(0), -2);
        is("house 3", x.credit(3), -1);
        is("house -1", x.credit(-1), -1);
        x = made("kind s 9 1;house a 0 1 0;law price 5 - date * 9;term 1;");
        x.go(1);
        is("sold up", x.house(0, 5), 1);
        is("of one sold up never", x.credit(0), -2);
        x = made("kind s 0 1;house a 0 1 0;law price 0-(date = 198);term 99;");
        is("in 199 days", x.credit(0), 199);
        x = made("kind s 0 1;house a 0 1 0;law price 0-(date = 199);term 99;");
        is("in 200 days", x.credit(0), -2);
        x = made("kind s 0 1;house a 0 1 0;law price 0-1;term 1;");
        is("paid the same day", x.credit(0), -2);
    }

    private static void plan() {
        promise(17);
        SunBills x = made(TOWN);
        is("r on day 0", x.plan(3, 0), 0);
        is("s on day 1", x.plan(3, 1), 1);
        is("s on day 2", x.plan(3, 2), 2);
        is("no work 3", x.plan(3, 3), -2);
        is("no work 5", x.plan(8, 5), -2);
        is("three", x.plan(3, 6), 3);
        is("sum", x.plan(3, 7), 102);
        is("the cheaper one", x.plan(2, 1), -2);
        is("the cheaper one", x.plan(2, 2), 1);
        is("sum", x.plan(2, 7), 42);
        is("0 days", x.plan(0, 0), -2);
        is("0 days, how many", x.plan(0, 6), 0);
        is("9 days", x.plan(9, 6), -1);
        is("-1 days", x.plan(-1, 6), -1);
        is("what 8", x.plan(1, 8), -1);
        is("what -1", x.plan(1, -1), -1);
        x.blind(0);
        is("whatever blind is down", x.plan(3, 6), 3);
        x.send(0);
        is("sent: s s s", x.plan(3, 0), -2);
        is("the first ones", x.plan(3, 1), 0);
        x.go(5);
        is("whoever is sold up", x.house(1, 5) * 10 + x.plan(2, 6), 12);
        // Alike in all: the first work has a day, and the first one.
        x = made("kind s 5 1;house a 1 2 0;work a s;work a s;");
        is("one day, two alike", x.plan(1, 0) * 10 + x.plan(1, 1), -2);
        is("two days", x.plan(2, 0) * 10 + x.plan(2, 1), 1);
        // More works count before what they cost.
        x = made("kind s 99 1;kind r 0 1;house a 1 9 0;day 1 r;work a s;work a r;");
        is("both", x.plan(2, 6), 2);
        is("dear", x.plan(2, 7), 891);
        x = made("kind s 1 1;house a 1 9 0;house b 1 1 0;house c 1 5 0;work a s;work b s;work c s;work b s;work a s;work c s;");
        is("of six four, the cheapest: b c b c", x.plan(4, 7), 12);
        is("a has none", x.plan(4, 0), -2);
        is("b", x.plan(4, 1), 0);
        is("c", x.plan(4, 2), 1);
        is("b", x.plan(4, 3), 2);
        is("a has none", x.plan(4, 4), -2);
        is("c", x.plan(4, 5), 3);
        is("eight days, six works", x.plan(8, 6), 6);
        is("the last one", x.plan(8, 5), 5);
        // A dear one gives way to a cheap one behind it, however cheap the first one is.
        x = made("kind s 1 1;house a 1 1 0;house b 1 3 0;house c 1 2 0;work a s;work b s;work c s;");
        is("a and c", x.plan(2, 7), 3);
        is("a", x.plan(2, 0), 0);
        is("b has none", x.plan(2, 1), -2);
        is("c", x.plan(2, 2), 1);
        // Of WORTH 0 all are as cheap: the first ones, whoever is more eager.
        x = made("kind z 0 1;house a 1 9 0;house b 1 0 0;work a z;work b z;work a z;");
        is("the first", x.plan(2, 0), 0);
        is("the second", x.plan(2, 1), 1);
        is("no third", x.plan(2, 2), -2);
        is("for nothing", x.plan(2, 7), 0);
    }

    private static void share() {
        promise(18);
        SunBills x = made("kind s 1 5;kind z 0 1;house a 0 2 0;house b 0 5 0;house c 0 9 0;house d 0 9 0;house e 0 0 0;house f 0 7 0;");
        // of a, b, c: 2/3; 2/3 + 3/2; 2/3 + 3/2 + 4
        is("a above", x.share(7, 0, 0, 0), 2);
        is("a below", x.share(7, 0, 0, 1), 3);
        is("b above", x.share(7, 1, 0, 0), 13);
        is("b below", x.share(7, 1, 0, 1), 6);
        is("c above", x.share(7, 2, 0, 0), 37);
        is("c below", x.share(7, 2, 0, 1), 6);
        // of all: a 2/5, b +3/4, f +2/3, c d +2/2
        is("all, d above", x.share(63, 3, 0, 0), 24 + 45 + 40 + 60);
        is("all, d below", x.share(63, 3, 0, 1), 60);
        is("one alone", x.share(4, 2, 0, 0), 9);
        is("one alone, below", x.share(4, 2, 0, 1), 1);
        is("not among them", x.share(4, 0, 0, 0), 0);
        is("not among them, below", x.share(4, 0, 0, 1), 1);
        is("none among them", x.share(0, 0, 0, 0), 0);
        is("none among them, below", x.share(0, 0, 0, 1), 1);
        is("worth 0", x.share(63, 2, 1, 0), 0);
        is("worth 0, below", x.share(63, 2, 1, 1), 1);
        is("eager 0", x.share(63, 4, 0, 1), 1);
        is("64", x.share(64, 0, 0, 0), -1);
        is("-1", x.share(-1, 0, 0, 0), -1);
        is("house 6", x.share(1, 6, 0, 0), -1);
        is("house -1", x.share(1, -1, 0, 0), -1);
        is("kind 2", x.share(1, 0, 2, 0), -1);
        is("kind -1", x.share(1, 0, -1, 0), -1);
        is("what 2", x.share(1, 0, 0, 2), -1);
        is("what -1", x.share(1, 0, 0, -1), -1);
        SunBills y = made("kind s 99 5;house a 0 9 0;house b 0 9 0;");
        is("99 times 9, half", y.share(3, 1, 0, 0), 891);
        is("half", y.share(3, 1, 0, 1), 2);
        is("house c is none", y.share(4, 0, 0, 0), -1);
    }

    private static void waits() {
        promise(19);
        SunBills x = made(TOWN);
        is("0 days", x.waits(0, 0), 0);
        is("0 days", x.waits(0, 1), 1);
        is("1 day", x.waits(1, 0), 62);
        is("1 day", x.waits(1, 1), 9);
        is("2 days", x.waits(2, 0), 698);
        is("2 days", x.waits(2, 1), 81);
        is("7 days", x.waits(7, 0), -1);
        is("-1 days", x.waits(-1, 0), -1);
        is("what 2", x.waits(1, 2), -1);
        is("what -1", x.waits(1, -1), -1);
        x = made("kind a 9 0;");
        is("no weights", x.waits(6, 0), 0);
        is("no weights", x.waits(6, 1), 1);
        x = made("kind a 9 1;kind b 5 0;");
        is("weight 1 in all", x.waits(2, 0) * 10 + x.waits(2, 1), 91);
        x = made("kind a 9 3;kind b 9 3;");
        is("least terms", x.waits(6, 0) * 10 + x.waits(6, 1), 91);
        // 593 of 594 have worth 98, one 99: below stays 594^6, above is the most that can be
        x = made("kind a 98 99;kind b 98 99;kind c 98 99;kind d 98 99;kind e 98 99;kind f 99 99;");
        // of sixths: v1 = 589/6; v(n) = (5 v(n-1) + 99) / 6, as v is above 98
        long above = 589;
        long below = 6;
        for (int n = 1; n <= 6; n++) {
            is("sixths " + n, x.waits(n, 0), above);
            is("sixths below " + n, x.waits(n, 1), below);
            above = 5 * above + 99 * below;
            below *= 6;
        }
        x = made("kind a 98 97;kind b 99 99;kind c 97 98;kind d 98 99;kind e 99 97;kind f 99 99;");
        is("no longs are too small", x.waits(6, 0) > 0 && x.waits(6, 1) > 0 && x.waits(6, 0) / x.waits(6, 1) == 98, true);
    }

    private static void came() {
        promise(20);
        SunBills x = made(TOWN);
        is("10 + 10", x.came(0, 2, 60), 1);
        is("10 + 4", x.came(0, 2, 42), 2);
        is("eager 0", x.came(2, 3, 0), 27);
        is("0 of 0 days", x.came(0, 0, 0), 1);
        is("1 of 0 days", x.came(0, 0, 1), 0);
        is("9999", x.came(0, 5, 9999), 0);
        is("10000", x.came(0, 5, 10000), -1);
        is("sum -1", x.came(0, 5, -1), -1);
        is("6 days", x.came(0, 6, 0), -1);
        is("-1 days", x.came(0, -1, 0), -1);
        is("house 3", x.came(3, 1, 0), -1);
        is("house -1", x.came(-1, 1, 0), -1);
        x = made("kind a 1 0;kind b 1 0;kind c 1 0;kind d 1 0;kind e 1 0;kind f 2 9;house h 0 1 0;");
        is("of whatever weight", x.came(0, 5, 5), 3125);
        is("4 of 1, one of 2", x.came(0, 5, 6), 3125);
        is("all of 2", x.came(0, 5, 10), 1);
        x = made("kind a 3 1;house h 0 2 0;");
        is("one kind", x.came(0, 4, 24), 1);
        is("one kind, not so much", x.came(0, 4, 18), 0);
        x = made("house h 0 1 0;");
        is("no kinds", x.came(0, 1, 0), 0);
        is("no kinds, no days", x.came(0, 0, 0), 1);
    }

    private static void likely() {
        promise(21);
        SunBills x = made(TOWN);
        is("1 - 36/81", x.likely(1, 2, 0), 5);
        is("1 - 36/81", x.likely(1, 2, 1), 9);
        is("0 days", x.likely(1, 0, 0), 0);
        is("0 days", x.likely(1, 0, 1), 1);
        is("m in 5 days", x.likely(2, 5, 0), 59049 - 32768);
        is("m in 5 days", x.likely(2, 5, 1), 59049);
        is("6 days", x.likely(1, 6, 0), -1);
        is("-1 days", x.likely(1, -1, 0), -1);
        is("kind 3", x.likely(3, 1, 0), -1);
        is("kind -1", x.likely(-1, 1, 0), -1);
        is("what 2", x.likely(1, 1, 2), -1);
        is("what -1", x.likely(1, 1, -1), -1);
        x = made("kind a 1 0;kind b 1 7;");
        is("no weight of its own", x.likely(0, 3, 0) * 10 + x.likely(0, 3, 1), 1);
        is("sure", x.likely(1, 3, 0) * 10 + x.likely(1, 3, 1), 11);
        x = made("kind a 1 0;kind b 1 1;");
        is("weight 1 in all", x.likely(1, 3, 0) * 10 + x.likely(1, 3, 1), 11);
        is("weight 1 in all, not of it", x.likely(0, 3, 0) * 10 + x.likely(0, 3, 1), 1);
        x = made("kind a 1 0;kind b 1 0;");
        is("no weights", x.likely(0, 3, 0) * 10 + x.likely(0, 3, 1), 1);
        x = made("kind a 1 99;kind b 1 99;kind c 1 99;kind d 1 99;kind e 1 99;kind f 1 98;");
        is("593 to the 5", x.likely(5, 5, 1), 593L * 593 * 593 * 593 * 593);
    }

    private static void rests() {
        promise(22);
        SunBills x = made(TOWN);
        is("both look", x.rests(0, 1, 0), 1);
        is("alike", x.rests(0, 0, 0), -1);
        is("house 3", x.rests(0, 3, 0), -1);
        is("house -1", x.rests(-1, 0, 0), -1);
        is("kind 3", x.rests(0, 1, 3), -1);
        is("kind -1", x.rests(0, 1, -1), -1);
        // worth 0, eager 3: both look 1 each, one alone 0 and 1, none 1 each: look/look, draw/draw rest
        x = made("kind n 0 1;kind w 14 1;kind t 10 1;house a 0 3 0;house b 0 3 0;house c 0 2 0;house d 0 0 0;");
        is("two", x.rests(0, 1, 0), 2);
        // worth 14, eager 2: looking beside one who looks 1, as drawing; alone 1, drawing as well 1: all rest
        is("four", made("kind w 14 1;house a 0 2 0;house b 0 2 0;").rests(0, 1, 0), 4);
        is("a half, cut", x.rests(0, 2, 0), 1);
    }

    private static void rest() {
        promise(23);
        SunBills x = made("kind w 14 1;house a 0 2 0;house b 0 2 0;house c 0 9 0;house d 0 0 0;kind n 0 1;");
        is("first", x.rest(0, 1, 0, 0), 0);
        is("second", x.rest(0, 1, 0, 1), 1);
        is("third", x.rest(0, 1, 0, 2), 10);
        is("fourth", x.rest(0, 1, 0, 3), 11);
        is("no fifth", x.rest(0, 1, 0, 4), -2);
        is("-1", x.rest(0, 1, 0, -1), -1);
        is("alike", x.rest(1, 1, 0, 0), -1);
        is("house 4", x.rest(4, 1, 0, 0), -1);
        is("to house 4", x.rest(1, 4, 0, 0), -1);
        is("kind 2", x.rest(1, 0, 2, 0), -1);
        // c (eager 9) looks always, d (eager 0, worth 0) never: of c and d 01, of d and c 10
        is("c looks alone", x.rest(2, 3, 1, 0), 1);
        is("d first", x.rest(3, 2, 1, 0), 10);
        is("only that", x.rest(3, 2, 1, 1), -2);
        is("k far above", x.rest(3, 2, 1, Integer.MAX_VALUE), -2);
        // worth 25, eager 1 and 9. One who looks alone has eager + 2, beside another eager + 0: the first one has 3 alone
        // and 1 in two (as drawing), half its eager 0; the second one always looks: 00 and 10 rest.
        x = made("kind u 25 1;kind f 5 1;kind g 4 1;house a 0 1 0;house b 0 9 0;house c 0 2 0;house d 0 4 0;");
        is("in two as drawing", x.rest(0, 1, 0, 0), 0);
        is("drawing", x.rest(0, 1, 0, 1), 10);
        is("no more", x.rest(0, 1, 0, 2), -2);
        // worth 5: alone eager - 2, in two eager - 2. c: 0, 0 against 1 and 1: draws; d: 2, 2 against 1 and 2: 10 and 11 rest.
        is("c draws, d looks", x.rest(2, 3, 1, 0), 10);
        is("c draws, d as well", x.rest(2, 3, 1, 1), 11);
        is("no more", x.rest(2, 3, 1, 2), -2);
        // worth 4: alone eager - 3, in two eager - 2. d: alone 1 against 2, in two 2 against 1; c: -1, 0 against 1, 1: 11 alone.
        is("both draw", x.rest(2, 3, 2, 0), 11);
        is("no more", x.rests(2, 3, 2), 1);
    }

    private static void richest() {
        promise(24);
        SunBills x = made("kind s 10 1;house a 50 1 0;house b 60 2 0;house c 50 0 0;term 3;");
        is("b", x.richest(), 1);
        x.go(1);
        is("50-10, 60-20, 50", x.richest(), 2);
        x = made("kind s 10 1;house a 5 1 0;house b 5 0 0;house c 5 0 0;term 1;");
        is("the first of several", x.richest(), 0);
        x.go(1);
        is("a is sold up, the first of the others", x.richest(), 1);
        x = made("kind s 10 1;house a 5 1 0;term 1;");
        x.go(1);
        is("none", x.richest(), -2);
        x = made("kind s 10 1;house a 5 9 0;house b 5 8 0;term 99;");
        x.go(1);
        is("below 0 both", x.richest(), 1);
    }

    private static void leave() {
        promise(25);
        SunBills x = made("kind s 1 1;kind z 0 1;house a 0 6 0;house b 0 3 0;house c 0 9 0;house d 0 2 0;");
        // a, c: 9, half each 4.5: neither
        is("nobody", x.leave(5, 0), -2);
        // b, c: parts 4.5: b pays 3
        is("b", x.leave(6, 0), 2);
        // a, b, c: parts 3: b pays 3, not less; a and b 6, not less than 6
        is("nobody at the very part", x.leave(7, 0), -2);
        // all: parts 2.25: d pays 2
        is("d", x.leave(15, 0), 8);
        is("worth 0", x.leave(15, 1), -2);
        is("one", x.leave(4, 0), -2);
        is("the first one", x.leave(1, 0), -2);
        is("a of a and a dearer one", made("kind s 1 1;house a 0 1 0;house b 0 9 0;").leave(3, 0), 1);
        is("0 and 1", made("kind s 1 1;house a 0 0 0;house b 0 1 0;").leave(3, 0), 1);
        is("none", x.leave(0, 0), -1);
        is("16", x.leave(16, 0), -1);
        is("-1", x.leave(-1, 0), -1);
        is("kind 2", x.leave(1, 2), -1);
        is("kind -1", x.leave(1, -1), -1);
        // two together though neither alone: parts 3 of 9: 3, 3 would not; of 4: 8/4 = 2 each
        x = made("kind s 1 1;house a 0 3 0;house b 0 3 0;house c 0 8 0;");
        // parts 8/3: a alone 3 > 2.67; a and b 3 < 5.33
        is("two together", x.leave(7, 0), 3);
    }

    // ---- promises 26 to 33

    private static void blinds() {
        promise(26);
        SunBills x = made(TOWN);
        is("a and b", x.blinds(5, 0), 3);
        is("none is sold up then", x.blinds(5, 1), 0);
        is("no need by then", x.blinds(4, 0), 0);
        is("0 days", x.blinds(0, 0), 0);
        is("0 days", x.blinds(0, 1), 0);
        is("60 days", x.blinds(60, 0), 3);
        is("61 days", x.blinds(61, 0), -1);
        is("-1 days", x.blinds(-1, 0), -1);
        is("what 2", x.blinds(1, 2), -1);
        is("what -1", x.blinds(1, -1), -1);
        x.blind(0);
        is("a's is down", x.blinds(5, 0), 2);
        is("nothing changed", x.house(1, 6), 0);
        // behind 3 days: a owes 108 and would owe 180, b and c can't be saved any more, d lives on credit
        x = made("kind s 10 1;house a 150 2 0;house b 0 1 0;house c 0 5 0;house d 0 0 0;law price used*9*(eager<>0)-(eager=0)*5;term 4;");
        x.go(3);
        is("b and c are lost", x.blinds(1, 0), 1);
        is("two are sold up then", x.blinds(1, 1), 2);
        x.go(1);
        is("those sold up now", x.blinds(0, 1), 3);
        is("nobody else", x.blinds(60, 0), 0);
        is("three", x.blinds(60, 1), 3);
    }

    private static void among() {
        promise(27);
        SunBills x = made("kind s 10 1;house a 5 0 0;house b 7 0 0;house c 12 0 0;house d 7 1 0;term 2;");
        is("one is enough", x.among(12), 4);
        is("the least bits of one", x.among(7), 2);
        is("the least bits of two", x.among(13), 5);
        is("two, not three", x.among(18), 6);
        is("three", x.among(26), 14);
        is("all", x.among(31), 15);
        is("by none", x.among(32), -2);
        is("0", x.among(0), -1);
        is("10000", x.among(10000), -1);
        is("9999", x.among(9999), -2);
        x.go(1);
        is("less bills", x.among(24), 7);
        is("d has a bill of more", x.among(25), -2);
        x.go(1);
        is("d is sold up", x.house(3, 5), 1);
        is("without it", x.among(24), 7);
        is("1", x.among(1), 1);
    }

    private static void rescue() {
        promise(28);
        SunBills x = made(TOWN);
        is("it can't be", x.rescue(), -2);
        x = made("kind s 10 1;house a 15 2 0;house b 5 0 0;house c 3 1 0;term 1;");
        // a is at -5, c at -7, b has 5
        is("12, but 5 there", x.rescue(), -2);
        x = made("kind s 10 1;house a 15 2 0;house b 12 0 0;house c 3 1 0;term 1;");
        is("12 of 12", x.rescue(), 12);
        is("12 of 11", made("kind s 10 1;house a 15 2 0;house b 11 0 0;house c 3 1 0;term 1;").rescue(), -2);
        x.go(1);
        is("those sold up now are in neither", x.rescue(), 0);
        x = made("kind s 10 1;house a 15 2 0;house b 11 0 1;house c 3 1 0;term 3;");
        is("45 and 27, not 12", x.rescue(), -2);
        x.blind(0);
        x.go(2);
        is("27 of a's 15 and b's 12", x.rescue(), 27);
        x = made("kind s 10 1;house a 15 2 0;house b 500 0 1;house c 3 1 0;term 3;");
        is("45 and 27", x.rescue(), 72);
        x.go(1);
        is("as much a day later", x.rescue(), 72);
        x.send(0);
        is("as it goes", x.rescue(), 72);
        is("nobody is", made("house a 0 0 0;").rescue(), 0);
    }

    private static void termIn() {
        promise(29);
        SunBills x = made("term 7;");
        is("7", x.termIn(), 7);
        x.go(6);
        is("this day", x.termIn(), 1);
        x.go(1);
        is("7 again", x.termIn(), 7);
        is("1", made("term 1;").termIn(), 1);
        is("30", made("").termIn(), 30);
    }

    private static void often() {
        promise(30);
        SunBills x = made(TOWN);
        is("s", x.often(0, 5), 3);
        is("r", x.often(1, 5), 1);
        is("m", x.often(2, 3), 0);
        is("m", x.often(2, 4), 1);
        is("200", x.often(0, 200), 198);
        is("0", x.often(0, 0), 0);
        is("201", x.often(0, 201), -1);
        is("-1", x.often(0, -1), -1);
        is("kind 3", x.often(3, 1), -1);
        is("kind -1", x.often(-1, 1), -1);
        x.send(0);
        is("sent", x.often(0, 1), 1);
        is("sent one day", x.often(1, 200), 0);
    }

    private static void owes() {
        promise(31);
        SunBills x = made(TOWN);
        // 12, 42, 72: more than 50 in 3 days
        is("a", x.owes(0), 3);
        is("c never", x.owes(2), -2);
        is("house 3", x.owes(3), -1);
        is("house -1", x.owes(-1), -1);
        x.go(3);
        is("it is", x.owes(0), 0);
        x.go(2);
        is("sold up", x.owes(0), 0);
        x = made("kind s 1 1;house a 198 1 0;house b 199 1 0;term 99;");
        is("in 199 days", x.owes(0), 199);
        is("in 200 days", x.owes(1), -2);
    }

    private static void have() {
        promise(32);
        SunBills x = made(TOWN);
        x.go(1);
        // a 50 - 12, b 20 - 24
        is("a", x.have(1), 38);
        is("b is below 0", x.have(2), -4);
        is("both", x.have(3), 34);
        is("all", x.have(7), 34);
        is("none", x.have(0), 0);
        is("8", x.have(8), LOW);
        is("-1", x.have(-1), LOW);
        is("no houses", new SunBills().have(0), 0);
        is("no houses, 1", new SunBills().have(1), LOW);
    }

    private static void dearest() {
        promise(33);
        is("50, 12, 0", made(TOWN).dearest(), 0);
        is("the first of several", made("kind a 3 2;kind b 2 6;kind c 4 3;").dearest(), 1);
        is("all 0", made("kind a 3 0;kind b 0 6;").dearest(), 0);
        is("none", made("house a 1 1 1;").dearest(), -2);
    }

    // ---- promises 34 to 44

    private static void note() {
        promise(34);
        SunBills x = made(TOWN);
        is("first", x.note(0, 0, 0, true), 0);
        is("second", x.note(99, 2, 999, false), 1);
        is("day 100", x.note(100, 0, 0, true), -1);
        is("day -1", x.note(-1, 0, 0, true), -1);
        is("house 3", x.note(0, 3, 0, true), -1);
        is("house -1", x.note(0, -1, 0, true), -1);
        is("bill 1000", x.note(0, 0, 1000, true), -1);
        is("bill -1", x.note(0, 0, -1, true), -1);
        for (int i = 2; i < 24; i++) {
            is("note " + i, i % 2 == 0 ? x.note(0, 0, 0, true) : x.strike(i - 1), i);
        }
        is("there are 24", x.note(0, 0, 0, true), -1);
        is("count", x.count(10), 24);
    }

    private static void strike() {
        promise(35);
        SunBills x = made(TOWN);
        is("no note", x.strike(0), -1);
        x.note(0, 0, 12, true);
        is("-1", x.strike(-1), -1);
        is("1", x.strike(1), -1);
        is("fits", x.fits(0), 6);
        is("strike", x.strike(0), 1);
        is("fits all", x.fits(0), 7);
        is("strike of a strike", x.strike(1), 2);
        is("it counts again", x.fits(0), 6);
        is("strike of that", x.strike(2), 3);
        is("it doesn't", x.fits(0), 7);
        is("strike of that", x.strike(3), 4);
        is("once more", x.strike(0), 5);
        is("struck by another", x.fits(0), 7);
        for (int i = 6; i < 24; i++) {
            is("strike " + i, x.strike(5), i);
        }
        is("there are 24", x.strike(5), -1);
        is("it counts by one of these", x.fits(0), 6);
    }

    private static void known() {
        promise(36);
        SunBills x = made(TOWN);
        is("by none of none", x.known(0), true);
        is("1 of none", x.known(1), false);
        x.note(0, 0, 12, true);
        is("those to come don't count", x.fits(0), 7);
        is("by all", x.known(-1), true);
        is("it counts", x.fits(0), 6);
        x.strike(0);
        is("all, also those to come", x.fits(0), 7);
        is("by the first", x.known(1), true);
        is("without the strike", x.fits(0), 6);
        is("-2", x.known(-2), false);
        is("3 of 2", x.known(3), false);
        is("stays", x.count(11), 1);
        is("2 of 2", x.known(2), true);
        x.note(0, 0, 0, true);
        is("not the third", x.fits(0), 7);
        is("by 2", x.count(11), 2);
    }

    private static void fits() {
        promise(37);
        SunBills x = made(TOWN);
        is("all, whatever is told", x.fits(0), 7);
        x.note(5, 1, 24, true);
        is("24 or less", x.fits(5), 6);
        is("another day", x.fits(6), 7);
        x.note(5, 1, 23, false);
        is("more than 23", x.fits(5), 2);
        x.note(5, 1, 24, false);
        is("more than 24", x.fits(5), 0);
        is("100", x.fits(100), -1);
        is("-1", x.fits(-1), -1);
        is("99", x.fits(99), 7);
        is("no kinds", made("house a 1 1 1;").fits(0), 0);
    }

    private static void ask() {
        promise(38);
        SunBills x = made("kind a 1 1;kind b 2 1;kind c 2 1;kind d 3 1;house h 0 0 0;house i 0 1 0;house j 0 2 0;");
        is("i tells most, the first of several", x.ask(0, 0), 1);
        is("b and c are alike", x.ask(0, 1), 2);
        x.note(0, 2, 3, true);
        is("only a", x.ask(0, 0), 0);
        is("one", x.ask(0, 1), 1);
        x.note(0, 2, 3, false);
        is("none fits", x.ask(0, 0), 0);
        is("none is left", x.ask(0, 1), 0);
        is("another day", x.ask(1, 0), 1);
        is("100", x.ask(100, 0), -1);
        is("-1", x.ask(-1, 0), -1);
        is("what 2", x.ask(0, 2), -1);
        is("what -1", x.ask(0, -1), -1);
        is("no houses", made("kind a 1 1;").ask(0, 0), -2);
        is("no houses, what 1", made("kind a 1 1;").ask(99, 1), -2);
        is("no kinds", made("house a 1 1 1;").ask(0, 0), 0);
    }

    private static void chance() {
        promise(39);
        // The only number of each time is odd or even: kind b is dear. From seed 0 on: 0, 21468, 9988, 22117, 3498, 16927,
        // 16207, 26988, 6945, 32414: even but for 22117, 16927, 16207, 6945.
        SunBills x = made("kind a 0 1;kind b 9 1;house h 8 1 0;house i 9 1 0;term 1;");
        is("one behind another", x.chance(0, 1, 0), 4);
        is("another house", x.chance(0, 1, 1), 0);
        is("by its own numbers", x.chance(0, 1, 0), 4);
        x.send(1);
        is("sent: no numbers", x.chance(5, 1, 0), 10);
        x.send(0);
        is("sent: no numbers", x.chance(5, 1, 0), 0);
        is("then the first number", x.chance(0, 2, 0), 4);
        is("nothing changed", x.count(4), 0);
        is("the last seed", x.chance(Integer.MAX_VALUE, 99, 0), 10);
        is("seed -1", x.chance(-1, 1, 0), -1);
        is("0 days", x.chance(0, 0, 0), -1);
        is("100 days", x.chance(0, 100, 0), -1);
        is("house 2", x.chance(0, 1, 2), -1);
        is("house -1", x.chance(0, 1, -1), -1);
        x.send(1);
        x.go(1);
        is("sold up now", x.chance(0, 1, 0), 10);
    }

    private static void tried() {
        promise(40);
        SunBills x = made(TOWN);
        is("all blinds down", x.tried(0, 0, 5), 85);
        is("worth 0", x.tried(1, 0, 5), 85);
        is("b's blind down", x.tried(2, 1, 5), -17);
        is("eager 9", x.tried(3, 0, 5), -833);
        is("no terms", x.tried(4, 0, 5), -236);
        is("0 days", x.tried(4, 0, 0), 70);
        is("201 days", x.tried(0, 0, 201), LOW);
        is("-1 days", x.tried(0, 0, -1), LOW);
        is("what 5", x.tried(5, 0, 1), LOW);
        is("what -1", x.tried(-1, 0, 1), LOW);
        is("i 1 of 0", x.tried(0, 1, 1), LOW);
        is("i 1 of 4", x.tried(4, 1, 1), LOW);
        is("house 3", x.tried(2, 3, 1), LOW);
        is("house -1", x.tried(2, -1, 1), LOW);
        x.blind(0);
        is("others as now", x.tried(2, 1, 5), 85);
        is("200 days", x.tried(0, 0, 200), 70 + 40 * 15);
        x = made("kind s 10 1;house a 100 2 0;law price worth + eager;term 99;");
        is("the name worth, too", x.tried(1, 0, 1), 98);
        is("the name eager, too", x.tried(3, 0, 1), 81);
        is("nothing changed", x.ahead(1, 1, 0), 12);
        x = made("house a 3 1 1;term 1;");
        is("without terms nothing is earned", x.tried(4, 0, 9), 3);
    }

    private static void undo() {
        promise(41);
        SunBills x = made(TOWN);
        is("none", x.undo(), -1);
        x.send(2);
        x.send(0);
        x.blind(1);
        x.lend(0, 1, 30);
        is("lent", x.undo(), 3);
        is("purses", x.house(0, 0) * 100 + x.house(1, 0), 5020);
        is("drawn", x.undo(), 2);
        is("up", x.house(1, 6), 0);
        is("sent", x.undo(), 1);
        is("the one sent ahead", x.weather(0), 2);
        is("sent", x.undo(), 0);
        is("told", x.weather(0), 1);
        is("none", x.undo(), -1);
        for (int i = 0; i < 21; i++) {
            x.lend(0, 1, 1);
        }
        is("20 at most", x.count(12), 20);
        for (int i = 19; i >= 0; i--) {
            is("undo " + i, x.undo(), i);
        }
        is("the first one stays", x.house(0, 0), 49);
        is("none", x.undo(), -1);
        for (int i = 0; i < 45; i++) {
            x.blind(i % 3);
            x.send(i % 2);
        }
        is("20 of 90", x.undo(), 19);
        is("the latest", x.weather(0), 1);
        is("the one ahead of it", x.undo(), 18);
        is("drawn", x.house(2, 6), 0);
        x.go(1);
        is("a day went by", x.undo(), -1);
    }

    private static void keep() {
        promise(42);
        SunBills x = made(TOWN);
        is("day 0", x.keep(), 0);
        x.go(3);
        is("day 3", x.keep(), 3);
        x.go(7);
        is("in place of the one ahead", x.back(), 3);
        x.blind(0);
        is("keep leaves what can be undone", x.keep() * 10 + x.undo(), 30);
        is("as it was kept", x.back() * 10 + x.house(0, 6), 31);
    }

    private static void back() {
        promise(43);
        SunBills x = made(TOWN + "seed 4242;");
        is("none", x.back(), -1);
        x.go(6);
        x.send(2);
        x.blind(2);
        x.lend(2, 0, 1);
        x.keep();
        long[] then = all(x);
        x.note(0, 0, 1, true);
        x.known(0);
        x.go(1);
        x.go(111);
        x.blind(1);
        is("day 6", x.back(), 6);
        is("nothing to undo", x.undo(), -1);
        same("all is as then", all(x), then);
        is("notes stay", x.count(10), 1);
        is("what is known stays", x.count(11), 0);
        x.go(50);
        long[] later = all(x);
        is("again", x.back(), 6);
        x.go(50);
        same("the same numbers come", all(x), later);
        x.text(0);
        is("a text: none", x.back(), -1);
    }

    private static long[] all(SunBills x) {
        long[] row = new long[60];
        int i = 0;
        for (int h = 0; h < 3; h++) {
            for (int what = 0; what < 7; what++) {
                row[i++] = x.house(h, what);
            }
        }
        for (int k = 0; k < 3; k++) {
            row[i++] = x.kind(k, 2);
        }
        for (int what = 4; what < 10; what++) {
            row[i++] = x.count(what);
        }
        row[i] = x.weather(0);
        return row;
    }

    private static void same(String call, long[] got, long[] want) {
        for (int i = 0; i < want.length; i++) {
            is(call + " " + i, got[i], want[i]);
        }
    }

    private static void count() {
        promise(44);
        SunBills x = made(TOWN + "law look 1 + 1;law use eager;");
        x.go(5);
        x.blind(2);
        x.send(1);
        x.note(1, 1, 1, true);
        x.note(1, 1, 1, true);
        x.strike(0);
        x.known(2);
        int[] due = {3, 3, 3, 4, 5, 2, 0, 0, 15, 0, 3, 2, 2};
        due[6] = x.house(0, 0) + x.house(1, 0) + x.house(2, 0);
        for (int what = 0; what < due.length; what++) {
            is("count(" + what + ")", x.count(what), due[what]);
        }
        is("purses below 0", x.count(6) < 0, true);
        is("13", x.count(13), -1);
        is("-1", x.count(-1), -1);
        x.known(-1);
        is("by all", x.count(11), 3);
        x = made("kind a 7 0;house h 50 2 0;house i 50 1 0;");
        x.send(0);
        x.go(3);
        is("bills", x.count(7), 21);
        is("days without weather", x.count(9), 2);
        x = made("kind a 7 1;house h 50 2 0;law price 0-3;");
        x.go(3);
        is("bills below 0", x.count(7), -9);
    }
}
