/** Sentences with a boundary case: of the TEXT, of E, of FAULTS, and of promises 1 to 5. */
public final class BoundaryTextTest extends Checks {
    private static final String ALL_LINES = "kind sun 1 2 ; house h 3 4 5 ; day 6 sun ; work h sun ; term 7 ; seed 8 ; "
        + "law look not ( worth + 1 ) * eager <= purse - bill / used and weight <> date or 2 >= 3 ; law use 1 = 2 ; law price 1 < ( 2 > 3 ) ; ";

    public static void main(String[] args) {
        calls();
        emptyText();
        lines();
        laws();
        smallLetters();
        words();
        numbers();
        blanks();
        numbersOfE();
        doubleSigns();
        formulas();
        kinds();
        houses();
        days();
        works();
        term();
        seed();
        numbered();
        firstFault();
        leastFault();
        noToken();
        cantStand();
        length();
        tooBig();
        tooMany();
        tooManyOpen();
        tooManyKnots();
        told();
        notTold();
        newObject();
        feeding();
        feedingFull();
        reading();
        readingTape();
        readingState();
        readingFaulty();
        readingTooMuch();
        faults();
        faultsOfWhat();
        named();
        namedNone();
        end("boundaries of the text");
    }

    // ---- what it is

    private static void calls() {
        says("An object is used for at most 512 calls after it has been made");
        SunBills x = new SunBills();
        int calls = (TOWN.length() + 19) / 20 + 1;
        read(x, TOWN);
        for (; calls < 511; calls++) {
            x.go(17);
        }
        is("the 512th call", x.count(4), 17 * (511 - (TOWN.length() + 19) / 20 - 1));
    }

    // ---- a TEXT

    private static void emptyText() {
        says("A TEXT: { LINE ';' }.");
        good("", 0);
        good(" ", 0);
        good("\n", 0);
        good(" \n\n  ", 0);
        good("term 5;", 1);
        good("term 5;\n", 1);
        good(ALL_LINES, 9);
        faulty(";", 1, 0);
        faulty("term 5;;", 1, 7);
        faulty("term 5; ;", 1, 8);
        faulty("term 5", 1, 6);
        faulty("term 5 seed 6;", 1, 7);
    }

    private static void lines() {
        says("LINE: kind W N N | house W N N N | day N W | work W W | term N | seed N | law LAW E.");
        String ahead = "kind k 1 1;house h 1 1 1;";
        String[] lines = {"kind a 1 2", "house a 1 2 3", "day 1 k", "work h k", "term 1", "seed 1", "law use 1"};
        for (String line : lines) {
            String[] parts = line.split(" ");
            good(ahead + line + ";", 3);
            // One part more, one part less, none, and two of them the other way round.
            faulty(ahead + line + " 1;", 1, ahead.length() + line.length() + 1);
            faulty(ahead + line + " z;", 1, ahead.length() + line.length() + 1);
            int last = line.lastIndexOf(' ');
            faulty(ahead + line.substring(0, last) + ";", 1, ahead.length() + last);
            faulty(ahead + parts[0] + ";", 1, ahead.length() + parts[0].length());
            faulty(ahead + parts[0], 1, ahead.length() + parts[0].length());
        }
        faulty(ahead + "kind 1 a 2;", 1, ahead.length() + 5);
        faulty(ahead + "house 1 a 2 3;", 1, ahead.length() + 6);
        faulty(ahead + "day k 1;", 1, ahead.length() + 4);
        faulty(ahead + "law 1 use;", 1, ahead.length() + 4);
        faulty(ahead + "kind a 1 2 3;", 1, ahead.length() + 11);
        faulty(ahead + "house a 1 2;", 1, ahead.length() + 11);
    }

    private static void laws() {
        says("LAW: look | use | price.");
        for (String law : new String[] {"look", "use", "price"}) {
            good("law " + law + " 1;", 1);
        }
        for (String word : new String[] {"used", "prices", "loo", "looks", "kind", "law", "term", "worth", "not", "a"}) {
            faulty("law " + word + " 1;", 1, 4);
        }
        faulty("law;", 1, 3);
        faulty("law", 1, 3);
        faulty("look 1;", 1, 0);
    }

    private static void smallLetters() {
        says("Words: small letters in a row");
        for (String line : new String[] {"Term 5;", "TERM 5;", "tErm 5;", "ter m 5;", "te1rm 5;", "terms 5;", "ter"}) {
            faulty(line, 1, 0);
        }
        faulty("kind A 1 1;", 1, 5);
        faulty("kind aB 1 1;", 1, 6);
        faulty("kind a_b 1 1;", 1, 6);
        faulty("law use Worth;", 1, 8);
        faulty("law use worthy;", 1, 8);
        faulty("law use 1 And 2;", 1, 10);
        faulty("law use 1 an 2;", 1, 10);
        good("law use 1and 2or not worth;", 1);
        // '`' and '{' stand next to a and z.
        faulty("kind ` 1 1;", 1, 5);
        faulty("kind { 1 1;", 1, 5);
        faulty("kind a` 1 1;", 1, 6);
        faulty("kind z{ 1 1;", 1, 6);
        // '/' and ':' stand next to 0 and 9.
        faulty("term 0/;", 2, 5);
        faulty("term 9/;", 1, 6);
        faulty("term 9:;", 1, 6);
        faulty("term :;", 1, 5);
    }

    private static void words() {
        says("W: one of 1 .. 6 letters, none of those of the language");
        for (String word : new String[] {"a", "z", "abcdef", "zzzzzz", "kin", "kinds", "o", "an", "weigh", "ouse", "looks", "lawday"}) {
            good("kind " + word + " 1 1;", 1);
            good("house " + word + " 1 1 1;", 1);
            good("kind " + word + " 1 1;house " + word + " 1 1 1;day 0 " + word + ";work " + word + " " + word + ";", 4);
        }
        for (String word : new String[] {"abcdefg", "weights", "aaaaaaaaaaaaaaaaaaaaaaaaaaaaaaaaaaaaaaaa", "1", "99", "(", ";", "Sun", "_"}) {
            notAWord(word);
        }
        for (String word : LANGUAGE) {
            notAWord(word);
        }
        // A word goes on as far as letters do.
        faulty("kinda 1 1;", 1, 0);
        faulty("lawuse 1;", 1, 0);
        good("kind a1 1;", 1);
    }

    private static void notAWord(String word) {
        faulty("kind " + word + " 1 1;", 1, 5);
        faulty("house " + word + " 1 1 1;", 1, 6);
        faulty("kind a 1 1;day 0 " + word + ";", 1, 17);
        faulty("work " + word + " a;", 1, 5);
        faulty("house h 1 1 1;work h " + word + ";", 1, 21);
    }

    private static void numbers() {
        says("N: digits.");
        for (String number : new String[] {"5", "05", "000000000000000000000000000000000000005"}) {
            SunBills x = made("kind a " + number + " " + number + ";house h " + number + " " + number + " " + number + ";term " + number + ";day " + number
                + " a;");
            is("worth", x.kind(0, 0), 5);
            is("weight", x.kind(0, 1), 5);
            is("purse", x.house(0, 0), 5);
            is("eager", x.house(0, 3), 5);
            is("term", x.termIn(), 5);
            is("in E", value(number), 5);
        }
        for (String number : new String[] {"-5", "+5", "x", "(5)", "5.", ".5", "$5"}) {
            int behind = number.equals("5.") ? 1 : 0;
            faulty("term " + number + ";", 1, 5 + behind);
            faulty("seed " + number + ";", 1, 5 + behind);
            faulty("kind a " + number + " 1;", 1, 7 + behind);
            faulty("kind a 1 " + number + ";", 1, 9 + behind);
            faulty("day " + number + " a;", 1, 4 + behind);
        }
        good("term 5;seed1;kind a2 3;", 3);
    }

    private static void blanks() {
        says("Blanks 10, 32.");
        for (int sign = 0; sign < 256; sign++) {
            boolean blank = sign == 10 || sign == 32;
            String alone = String.valueOf((char) sign);
            if (blank) {
                good(alone, 0);
                good("term" + alone + "5" + alone + ";" + alone, 1);
                good("kind" + alone + "a" + alone + "1" + alone + "1" + alone + alone + ";", 1);
                faulty("te" + alone + "rm 5;", 1, 0);
                faulty("kind a 1" + alone + "0" + alone + "0;", 1, 11);
            } else {
                faulty(alone, 1, 0);
                inFormula((char) sign);
            }
        }
        faulty("law use 1 < = 2;", 1, 12);
        faulty("law use 1 <\n> 2;", 1, 12);
    }

    /** A sign between two numbers of E. */
    private static void inFormula(char sign) {
        String text = "law use 1" + sign + "1;";
        if (sign >= '0' && sign <= '9' || "+-*/<=>".indexOf(sign) >= 0) {
            good(text, 1);
        } else if (sign == ';') {
            faulty(text, 1, 10);
        } else {
            faulty(text, 1, 9);
        }
    }

    private static void numbersOfE() {
        says("N of E 0 .. 9999");
        is("0", value("0"), 0);
        is("9999", value("9999"), 9999);
        is("09999", value("09999"), 9999);
        faulty("law use 10000;", 2, 8);
        faulty("law use (1 + 10000);", 2, 13);
        faulty("law use 99999999999999999999999999;", 2, 8);
        faulty("law use 4294967296;", 2, 8);
        faulty("law use 18446744073709551616;", 2, 8);
    }

    private static void doubleSigns() {
        says("A = (or > behind <) right behind < or > belongs to it.");
        is("<=", value("2<=2"), 1);
        is(">=", value("2>=2"), 1);
        is("<>", value("2<>2"), 0);
        faulty("law use 1< =2;", 1, 11);
        faulty("law use 1> =2;", 1, 11);
        faulty("law use 1< >2;", 1, 11);
        faulty("law use 1><2;", 1, 10);
        faulty("law use 1>>2;", 1, 10);
        faulty("law use 1<<2;", 1, 10);
        faulty("law use 1=<2;", 1, 10);
        faulty("law use 1=>2;", 1, 10);
        faulty("law use 1==2;", 1, 10);
        faulty("law use 1<==2;", 1, 11);
        faulty("law use 1<>=2;", 1, 11);
        faulty("law use 1<=>2;", 1, 11);
        faulty("law use 1<", 1, 10);
        faulty("law use 1<=", 1, 11);
        is("one knot", made("law use 1<=2;").count(3), 3);
        // What is behind the TEXT's n bytes doesn't belong to it.
        SunBills x = new SunBills();
        feed(x, "law use 1<=2;");
        is("text(10)", x.text(10), -1);
        is("the length", x.fault(1), 10);
    }

    private static void formulas() {
        says("E: A { or A }. A: B { and B }. B: not B | C. C: S [ ( < | <= | = | <> | >= | > ) S ]. S: T { ( + | - ) T }. "
            + "T: P { ( * | / ) P }. P: N | NAME | '(' E ')'");
        for (String sign : new String[] {"<", "<=", "=", "<>", ">=", ">"}) {
            faulty("law use 1 " + sign + " 2 = 3;", 1, 8 + 5 + sign.length());
            faulty("law use 1 + 2 " + sign + " 2 * 2 - 1 " + sign + " 3;", 1, 25 + sign.length());
            good("law use (1 " + sign + " 2) " + sign + " (3 " + sign + " 4);", 1);
            good("law use 1 " + sign + " 2 and 3 " + sign + " 4 or not 5 " + sign + " 6;", 1);
        }
        for (String sign : new String[] {"or", "and", "<", "<=", "=", "<>", ">=", ">", "+", "-", "*", "/"}) {
            faulty("law use " + sign + " 1;", 1, 8);
            faulty("law use 1 " + sign + ";", 1, 10 + sign.length());
            faulty("law use 1 " + sign + " / 1;", 1, 11 + sign.length());
            faulty("law use (" + sign + " 1);", 1, 9);
            faulty("law use (1 " + sign + ");", 1, 11 + sign.length());
            faulty("law use 1 not " + sign + " 1;", 1, 10);
        }
        for (String sign : new String[] {"<", "<=", "=", "<>", ">=", ">", "+", "-", "*", "/"}) {
            faulty("law use 1 " + sign + " not 1;", 1, 11 + sign.length());
            good("law use 1 " + sign + " (not 1);", 1);
        }
        good("law use 1 or not 1 and not not 1;", 1);
        faulty("law use not;", 1, 11);
        faulty("law use ();", 1, 9);
        faulty("law use (;", 1, 9);
        faulty("law use );", 1, 8);
        faulty("law use 1);", 1, 9);
        faulty("law use (1;", 1, 10);
        faulty("law use (1));", 1, 11);
        faulty("law use (1)(2);", 1, 11);
        faulty("law use 1(2);", 1, 9);
        faulty("law use (1)2;", 1, 11);
        faulty("law use 1 worth;", 1, 10);
        faulty("law use worth eager;", 1, 14);
        is("and ahead of or", value("1 or 0 and 0"), 1);
        is("and ahead of or, left", value("0 and 0 or 1"), 1);
        is("( ) ahead of and", value("(1 or 0) and 0"), 0);
        is("or in ( )", value("(0 or 1) + 1"), 2);
        is("not ahead of and", value("not 0 and 0"), 0);
        is("comparisons ahead of not", value("not 0 = 1"), 1);
        is("+ ahead of comparisons", value("1 + 1 = 2"), 1);
        is("* ahead of +", value("1 + 2 * 3"), 7);
        is("- from the left", value("9 - 3 - 2"), 4);
        is("/ from the left", value("9 / 3 * 2"), 6);
        is("most of all waiting: eight '(', 63 nots", value("((((((((" + times(63, "not ") + "1))))))))"), 0);
        for (String word : LANGUAGE) {
            boolean name = "worth eager purse bill used weight date".contains(word) && !word.equals("use") && !word.equals("or");
            if (name) {
                good("law use " + word + ";", 1);
            } else {
                faulty("law use " + word + ";", 1, word.equals("not") ? 11 : 8);
            }
        }
    }

    private static void kinds() {
        says("KINDS, at most 6: WORTH 0 .. 99, WEIGHT 0 .. 99.");
        SunBills x = made("kind a 0 99;kind b 99 0;");
        is("worth 0", x.kind(0, 0), 0);
        is("weight 99", x.kind(0, 1), 99);
        is("worth 99", x.kind(1, 0), 99);
        is("weight 0", x.kind(1, 1), 0);
        faulty("kind a 100 0;", 2, 7);
        faulty("kind a 0 100;", 2, 9);
        is("six", made(SIX_KINDS).count(0), 6);
        faulty(SIX_KINDS + "kind g 1 1;", 2, SIX_KINDS.length());
    }

    private static void houses() {
        says("HOUSES, at most 6: PURSE 0 .. 999, EAGER 0 .. 9, EARNS 0 .. 99.");
        SunBills x = made("house a 0 9 99;house b 999 0 0;term 1;");
        is("purse 0", x.house(0, 0), 0);
        is("eager 9", x.house(0, 3), 9);
        is("purse 999", x.house(1, 0), 999);
        is("eager 0", x.house(1, 3), 0);
        is("earns 99", x.ahead(1, 0, 0), 99);
        is("earns 0", x.ahead(1, 0, 1), 999);
        faulty("house a 1000 0 0;", 2, 8);
        faulty("house a 0 10 0;", 2, 10);
        faulty("house a 0 0 100;", 2, 12);
        is("six", made(SIX_HOUSES).count(1), 6);
        faulty(SIX_HOUSES + "house g 1 1 1;", 2, SIX_HOUSES.length());
    }

    private static String dayLines(int n) {
        StringBuilder lines = new StringBuilder("kind a 1 1;kind b 1 2;");
        for (int i = 0; i < n; i++) {
            lines.append("day ").append(i * 5).append(" a;");
        }
        return lines.toString();
    }

    private static void days() {
        says("day: the KIND of a DAY 0 .. 99 (each DAY once), at most 20.");
        SunBills x = made("kind a 1 1;kind b 1 2;day 0 a;day 99 a;");
        is("day 0", x.weather(0), 0);
        is("day 1", x.weather(1), 1);
        is("day 98", x.weather(98), 1);
        is("day 99", x.weather(99), 0);
        is("day 100", x.weather(100), 1);
        faulty("kind a 1 1;day 100 a;", 2, 15);
        faulty("kind a 1 1;day 0 a;day 0 a;", 3, 23);
        faulty("kind a 1 1;day 99 a;day 99 a;", 3, 24);
        good(dayLines(20), 22);
        is("the twentieth", made(dayLines(20)).weather(95), 0);
        faulty(dayLines(20) + "day 1 a;", 2, dayLines(20).length());
    }

    private static void works() {
        says("WORKS, at most 6: of a HOUSE, wanting a KIND.");
        String ahead = "kind k 1 1;house h 1 1 1;";
        is("none", made(ahead).count(2), 0);
        is("six", made(ahead + times(6, "work h k;")).count(2), 6);
        is("the sixth has its day", made(ahead + times(6, "work h k;")).plan(8, 5), 5);
        faulty(ahead + times(6, "work h k;") + "work h k;", 2, ahead.length() + 54);
        faulty(ahead + "work k h;", 4, ahead.length() + 5);
    }

    private static void term() {
        says("term: 1 .. 99 (30).");
        is("1", made("term 1;").termIn(), 1);
        is("99", made("term 99;").termIn(), 99);
        is("30", made("seed 1;").termIn(), 30);
        faulty("term 0;", 2, 5);
        faulty("term 00;", 2, 5);
        faulty("term 100;", 2, 5);
    }

    private static void seed() {
        says("seed: 0 .. 99999 (0).");
        String kinds = "kind a 1 1;kind b 1 1;";
        String none = "";
        String nought = "";
        String least = "";
        String most = "";
        for (int n = 1; n < 40; n++) {
            none += kindOf(kinds, n);
            nought += kindOf(kinds + "seed 0;", n);
            least += kindOf(kinds + "seed 1;", n);
            most += kindOf(kinds + "seed 99999;", n);
        }
        same("without", none, nought);
        is("another seed goes otherwise", least.equals(none), false);
        is("the greatest, too", most.equals(none), false);
        faulty("seed 100000;", 2, 5);
        faulty("seed 4294967295;", 2, 5);
    }

    /** How often the first KIND came by a DAY. */
    private static String kindOf(String text, int n) {
        SunBills x = made(text);
        x.go(n);
        return x.kind(0, 2) + " ";
    }

    private static void numbered() {
        says("All numbered as they come; KINDS, HOUSES have names of their kind.");
        SunBills x = made("house b 1 2 3;kind z 9 8;house a 4 5 6;kind b 7 6;work a z;work b b;day 0 b;");
        is("house 0", x.house(0, 0), 1);
        is("house 1", x.house(1, 0), 4);
        is("kind 0", x.kind(0, 0), 9);
        is("kind 1", x.kind(1, 0), 7);
        is("house b", x.named(1, letters("b")), 0);
        is("kind b", x.named(0, letters("b")), 1);
        is("no kind a", x.named(0, letters("a")), -1);
        is("no house z", x.named(1, letters("z")), -1);
        is("work 0 wants z", x.plan(2, 0), 1);
        is("work 1 wants b", x.plan(2, 1), 0);
        faulty("house b 1 2 3;day 0 b;", 4, 20);
        faulty("kind b 1 2;work b b;", 4, 16);
    }

    // ---- FAULTS

    private static void firstFault() {
        says("FAULTS, the first along the text (of one place the least), with its place");
        faulty("kind a 100 1;#", 2, 7);
        faulty("kind a 1 1 #;kind a 100 1;", 1, 11);
        faulty("kind a 1 1;kind a 100 1;term 0;", 3, 16);
        faulty("kind a 1 1;day 0 b;kind a 1 1;", 4, 17);
        faulty("term 0;term 0;", 2, 5);
        faulty("term 5;term 0;", 3, 7);
        faulty("kind a 100", 2, 7);
        faulty("day 100 x", 2, 4);
        faulty("day 5 x", 4, 6);
        faulty("law use 10000 10000;", 2, 8);
        faulty("law use ((((((((( #", 2, 16);
    }

    private static void leastFault() {
        says("(of one place the least)");
        // A number that can't stand there, however much it is.
        faulty("kind 100 1 1;", 1, 5);
        faulty("kind a 1 1 100;", 1, 11);
        faulty("law use 1 10000;", 1, 10);
        faulty("law 10000;", 1, 4);
        // A '(' that would be the ninth but can't stand there; a KNOT that would be the 65th, too.
        faulty("law use ((((((((1(", 1, 17);
        String full = "law use 1" + times(31, "+1");
        faulty(full + "=1 1;", 2, full.length() + 1);
        faulty(full + " 1=1;", 1, full.length() + 1);
        faulty("law look 1" + times(31, "+1") + "=" + ";", 1, 10 + 62 + 1);
        String fuller = "law look 0;" + full;
        is("64 knots", made(fuller + ";").count(3), 64);
        faulty(fuller + " 1;", 1, fuller.length() + 1);
        faulty(fuller + " worth;", 1, fuller.length() + 1);
        faulty(fuller + " not 1;", 1, fuller.length() + 1);
        faulty(fuller + " sun;", 1, fuller.length() + 1);
        faulty(fuller + " + 1;", 2, fuller.length() + 1);
        faulty(fuller + ";law price + 1;", 1, fuller.length() + 11);
        faulty(fuller + ";law price not 1;", 2, fuller.length() + 11);
        faulty(fuller + ";law price 10000;", 2, fuller.length() + 11);
        // 31 KNOTS more: the second comparison can't stand, and would be one too many.
        String compared = "law look 1;law use 1" + times(30, "+1") + "<1";
        is("64 knots", made(compared + ";").count(3), 64);
        faulty(compared + "<1;", 1, compared.length());
        faulty(compared + " and 1;", 2, compared.length() + 1);
    }

    private static void noToken() {
        says("1 a TOKEN that is none (a word of more than 6 letters that isn't of the language, too)");
        String[] tokens = ALL_LINES.split(" ");
        int place = 0;
        for (int i = 0; i < tokens.length; i++) {
            for (String none : new String[] {"#", "abcdefg", "kindhouse", "X", "\t", "\r", "\u00e4", "\u0000", ",", "!"}) {
                String[] spoilt = tokens.clone();
                spoilt[i] = none;
                faulty(String.join(" ", spoilt), 1, place);
            }
            place += tokens[i].length() + 1;
        }
    }

    private static void cantStand() {
        says("or can't stand there");
        String[] lineWords = {"kind", "house", "day", "work", "term", "seed", "law"};
        for (String word : LANGUAGE) {
            boolean line = java.util.Arrays.asList(lineWords).contains(word);
            faulty(word + " ", 1, line ? word.length() + 1 : 0);
            faulty("term 3;seed 3;kind a 1 1 " + word + ";", 1, 25);
            boolean law = "look use price".contains(word);
            faulty("law " + word, 1, law ? 4 + word.length() : 4);
        }
        for (String token : new String[] {"a", "5", "(", ")", ";", "<", "<=", "=", "<>", ">=", ">", "+", "-", "*", "/"}) {
            faulty(token, 1, 0);
            faulty("law " + token, 1, 4);
            if (!token.equals(";")) {
                faulty("term 5 " + token, 1, 7);
            }
            if (!token.equals("5")) {
                faulty("term " + token, 1, 5);
                faulty("seed " + token, 1, 5);
                faulty("day " + token, 1, 4);
                faulty("kind a 1 " + token, 1, 9);
                faulty("house a 1 1 " + token, 1, 12);
            }
        }
    }

    private static void length() {
        says("(the length, if more must come)");
        String[] tokens = ALL_LINES.split(" ");
        int lines = 0;
        StringBuilder text = new StringBuilder();
        for (String token : tokens) {
            text.append(token);
            lines += token.equals(";") ? 1 : 0;
            if (token.equals(";")) {
                good(text.toString(), lines);
                good(text + " \n ", lines);
            } else if (!token.equals("<") && !token.equals(">")) {
                faulty(text.toString(), 1, text.length());
            }
            if (!token.equals(";")) {
                faulty(text + " ", 1, text.length() + 1);
                faulty(text + "\n  \n", 1, text.length() + 4);
            }
            text.append(' ');
        }
        // The length is n, whatever is behind it on the TAPE.
        SunBills x = new SunBills();
        feed(x, "term 5;");
        is("text(6)", x.text(6), -1);
        is("fault", x.fault(0), 1);
        is("place", x.fault(1), 6);
    }

    private static void tooBig() {
        says("2 too much (at it): a number beyond what is said");
        String[] texts = {"kind a @ 1;99", "kind a 1 @;99", "house a @ 1 1;999", "house a 1 @ 1;9", "house a 1 1 @;99", "kind a 1 1;day @ a;99",
            "term @;99", "seed @;99999", "law use @;9999", "law look (1 + @);9999"};
        for (String told : texts) {
            int cut = told.lastIndexOf(';') + 1;
            String text = told.substring(0, cut);
            int most = Integer.parseInt(told.substring(cut));
            int place = text.indexOf('@');
            SunBills x = new SunBills();
            is(text + " of " + most, read(x, text.replace("@", String.valueOf(most))) > 0, true);
            for (String more : new String[] {String.valueOf(most + 1), "1" + times(9, "0"), "4294967296", "4294967297", "18446744073709551616", times(30, "9")}) {
                faulty(text.replace("@", more), 2, place);
            }
        }
    }

    private static void tooMany() {
        says("a seventh kind and so on (at the word of the LINE)");
        // At the word, whatever would come behind it.
        for (String rest : new String[] {"", " g 1 1;", " a 1 1;", " #", " g 100 1;", ";"}) {
            faulty(SIX_KINDS + " kind" + rest, 2, SIX_KINDS.length() + 1);
        }
        for (String rest : new String[] {"", " g 1 1 1;", " a 1 1 1;", " #", " g 1000 1 1;", ";"}) {
            faulty(SIX_HOUSES + "\nhouse" + rest, 2, SIX_HOUSES.length() + 1);
        }
        for (String rest : new String[] {"", " 1 a;", " 0 a;", " 100 a;", " 1 z;", ";"}) {
            faulty(dayLines(20) + "day" + rest, 2, dayLines(20).length());
        }
        String works = "kind k 1 1;house h 1 1 1;" + times(6, "work h k;");
        for (String rest : new String[] {"", " h k;", " k h;", " 1", ";"}) {
            faulty(works + "work" + rest, 2, works.length());
        }
    }

    private static void tooManyOpen() {
        says("a ninth '(' open");
        is("eight", value("((((((((7))))))))"), 7);
        is("eight, and eight again", value("((((((((7))))))))+((((((((7))))))))"), 14);
        is("many one behind another", value(times(15, "(1)+") + "(1)"), 16);
        is("eight once some are closed", value("((((1)+(1))*(((((1)))))))"), 2);
        faulty("law use (((((((((7)))))))));", 2, 16);
        faulty("law use ((1)+((((((((7))))))));", 2, 19 + 1);
        faulty("law use ((((((((1+(", 2, 18);
        faulty("law use ((((((((not (", 2, 20);
    }

    private static void tooManyKnots() {
        says("a 65th KNOT of all E (N, NAMES, signs, not, and, or: one each)");
        is("a number", made("law use 1;").count(3), 1);
        is("in ( )", made("law use (((1)));").count(3), 1);
        for (String name : new String[] {"worth", "eager", "purse", "bill", "used", "weight", "date"}) {
            is(name, made("law use " + name + ";").count(3), 1);
        }
        for (String sign : new String[] {"or", "and", "<", "<=", "=", "<>", ">=", ">", "+", "-", "*", "/"}) {
            is(sign, made("law use 1 " + sign + " 1;").count(3), 3);
        }
        is("not", made("law use not not 1;").count(3), 3);
        is("of all E", made("law look 1;law use 1+1;law price worth*(2-3);").count(3), 9);
        String full = "law look 1;law use 1" + times(30, "+1") + ";law price ";
        is("64", made(full + "1;").count(3), 64 - 1);
        is("64", made(full + "not 1;").count(3), 64);
        is("( ) are none", made(full + "not ((1));").count(3), 64);
        faulty(full + "1+1;", 2, full.length() + 2);
        faulty(full + "not not 1;", 2, full.length() + 8);
        faulty(full + "not worth and 1;", 2, full.length() + 10);
        faulty(full + "not worth or 1;", 2, full.length() + 10);
        faulty(full + "not worth<1;", 2, full.length() + 9);
        faulty(full + "not 1*1;", 2, full.length() + 5);
        // With a FAULT none of them count.
        SunBills x = made("law use 1+1;");
        read(x, full + "1+1;");
        is("as before", x.count(3), 3);
        is("again from none on", read(x, full + "1;"), 3);
        // All 64 are there, however often such a TEXT comes.
        String whole = "kind k 1 1;house h 1 1 1;law look 7;law use 1" + times(31, "+1") + ";";
        for (int i = 0; i < 5; i++) {
            is("64 again", read(x, whole), 4);
            is("count", x.count(3), 64);
            is("the first", x.law(0, 0, 0), 7);
            is("the last", x.law(1, 0, 0), 32);
        }
    }

    private static void told() {
        says("3 told already: a name of its kind (at W), a DAY (at N), term, seed (at the word), a law of its LAW (at LAW).");
        faulty("kind a 1 1;kind  a", 3, 17);
        faulty("kind abcdef 1 1;kind abcdef 1 1;", 3, 21);
        good("kind abcdef 1 1;kind abcde 1 1;kind bcdef 1 1;house abcdef 1 1 1;", 4);
        faulty("house a 1 1 1;house a 1 1 1;", 3, 20);
        faulty("house a 1 1 1;kind a 1 1;kind b 1 1;house b 1 1 1;house b 1 1 1;", 3, 56);
        faulty("kind a 1 1;day 0 a;day 00 a;", 3, 23);
        faulty("kind a 1 1;day 99 a;day 99 z;", 3, 24);
        faulty("term 30;term 30;", 3, 8);
        faulty("term 1;seed 0;term", 3, 14);
        faulty("seed 0;seed 0;", 3, 7);
        faulty("seed 0;term 1;seed", 3, 14);
        for (String law : new String[] {"look", "use", "price"}) {
            faulty("law " + law + " 1;law " + law + " 1;", 3, 11 + law.length());
            faulty("law " + law + " 0;law  " + law, 3, 12 + law.length());
        }
        good("law look 1;law use 1;law price 1;", 3);
        // What a TEXT ahead told is not told already.
        SunBills x = made(ALL_LINES);
        is("again", read(x, ALL_LINES), 9);
        is("and again", read(x, ALL_LINES), 9);
        // Nor what one with a FAULT told.
        is("a fault", read(x, ALL_LINES + "#"), -1);
        is("and again", read(x, ALL_LINES), 9);
        // The most of each, again and again.
        String works = "kind a 1 1;kind b 1 2;house h 1 1 1;" + times(6, "work h a;");
        for (int i = 0; i < 4; i++) {
            is("20 days", read(x, dayLines(20)), 22);
            is("six works", read(x, works), 9);
            is("six kinds", read(x, SIX_KINDS), 6);
            is("six houses", read(x, SIX_HOUSES), 6);
        }
    }

    private static void notTold() {
        says("4 a KIND, a HOUSE that isn't told ahead (at W).");
        faulty("day 0 a;", 4, 6);
        faulty("day 0 a;kind a 1 1;", 4, 6);
        faulty("house a 1 1 1;day 0 a;", 4, 20);
        faulty("kind ab 1 1;day 0 a;", 4, 18);
        faulty("kind a 1 1;day 0 ab;", 4, 17);
        faulty("kind a 1 1;work a a;", 4, 16);
        faulty("house a 1 1 1;work a a;", 4, 21);
        faulty("work a a;house a 1 1 1;kind a 1 1;", 4, 5);
        faulty("house a 1 1 1;work  a  a;kind a 1 1;", 4, 23);
        // What a TEXT ahead told is not told.
        SunBills x = made("kind a 1 1;house a 1 1 1;");
        is("day", read(x, "day 0 a;"), -1);
        is("fault", x.fault(0), 4);
        is("work", read(x, "work a a;"), -1);
        is("fault", x.fault(0), 4);
        is("day again", read(x, "day 0 a;"), -1);
    }

    // ---- promises 1 to 5

    private static void newObject() {
        says("A TEXT without LINES; an empty TAPE.");
        SunBills x = new SunBills();
        for (int what = 0; what < 13; what++) {
            is("count(" + what + ")", x.count(what), 0);
        }
        is("no fault", x.fault(0), 0);
        is("no place", x.fault(1), -1);
        is("term 30", x.termIn(), 30);
        is("no weather", x.weather(0), -2);
        is("no image", x.back(), -1);
        is("nothing to undo", x.undo(), -1);
        is("no notes", x.strike(0), -1);
        is("nobody", x.richest(), -2);
        is("an empty tape", x.text(1), -2);
        is("an empty tape, all of it", x.text(0), 0);
        SunBills y = new SunBills();
        is("20 bytes then", y.feed(0, 0, 0, 0, 0), 20);
        is("days go by", y.go(200), 200);
        is("without weather", y.count(9), 200);
    }

    private static void feeding() {
        says("Twenty bytes come behind the TAPE, four of each number, the highest first: how many it has");
        SunBills x = new SunBills();
        is("20", x.feed(0x7465726d, 0x20313233, 0x34353637, 0x38394041, 0x42434445), 20);
        is("40", x.feed(-1, LOW, HIGH, 0, 0x3b3b3b3b), 40);
        is("a fault", x.text(8), -1);
        is("term 123 is too much", x.fault(0) * 10 + x.fault(1), 25);
        for (int i = 0; i < 20; i++) {
            int[] v = new int[5];
            for (int j = 0; j < 20; j++) {
                v[j / 4] = v[j / 4] << 8 | (j == i ? 0xff : 0x20);
            }
            SunBills y = new SunBills();
            y.feed(v[0], v[1], v[2], v[3], v[4]);
            is("byte 255 at " + i, y.text(20), -1);
            is("its place", y.fault(1), i);
        }
    }

    private static void feedingFull() {
        says("NONE, and none come, if it would have more than 700.");
        SunBills x = new SunBills();
        int blank = 0x20202020;
        for (int i = 1; i <= 35; i++) {
            is("feed " + i, x.feed(blank, blank, blank, blank, i == 35 ? 0x20202023 : blank), 20 * i);
        }
        is("beyond", x.feed(-1, -1, -1, -1, -1), -1);
        is("beyond again", x.feed(-1, -1, -1, -1, -1), -1);
        is("no more than 700", x.text(701), -2);
        is("all 700", x.text(700), -1);
        is("the last byte is as it came", x.fault(1), 699);
        is("then it is empty", x.feed(blank, blank, blank, blank, blank), 20);
        is("none of those refused", x.text(20), 0);
        StringBuilder whole = new StringBuilder("term 9");
        while (whole.length() < 699) {
            whole.append(' ');
        }
        is("a line of 700 bytes", read(x, whole + ";"), 1);
        is("term", x.termIn(), 9);
    }

    private static void reading() {
        says("The TAPE's first n bytes (it is empty then) are the TEXT");
        SunBills x = new SunBills();
        feed(x, "term 7;term 8;");
        is("the first 7", x.text(7), 1);
        is("term", x.termIn(), 7);
        is("empty", x.text(1), -2);
        feed(x, "term 8;");
        is("none of them", x.text(0), 0);
        is("term", x.termIn(), 30);
        is("empty behind 0 bytes, too", x.feed(0, 0, 0, 0, 0), 20);
        is("all of 20", x.text(20), -1);
        feed(x, "term 6;             ");
        is("all 20 of 20", x.text(20), 1);
    }

    private static void readingTape() {
        says("-2, and the TAPE stays: there are not so many, n is below 0.");
        SunBills x = made(TOWN);
        x.go(1);
        feed(x, "term 7;");
        for (int n : new int[] {21, 22, 700, 701, HIGH, -1, -2, -20, LOW}) {
            refused(x, "text(" + n + ")", () -> x.text(n), -2);
        }
        is("the tape has 40 then", x.feed(0, 0, 0, 0, 0), 40);
        is("41", x.text(41), -2);
        is("its first 7", x.text(7), 1);
        is("term", x.termIn(), 7);
        SunBills y = new SunBills();
        is("1 of none", y.text(1), -2);
        is("-1 of none", y.text(-1), -2);
        is("0 of none", y.text(0), 0);
    }

    private static void readingState() {
        says("(DAY 0, PURSES as told, no BILLS, nothing USED, blinds up, nobody SOLD UP, nothing sent, no NOTES, all KNOWN, no IMAGE, nothing to undo then)");
        for (int again = 0; again < 3; again++) {
            SunBills x = made(TOWN);
            String fresh = state(x);
            x.go(again == 0 ? 3 : 47);
            x.keep();
            x.note(0, 0, 0, false);
            x.note(1, 0, 0, false);
            x.known(1);
            x.blind(0);
            x.blind(2);
            x.send(2);
            x.lend(0, 1, 5);
            is("it changed", state(x).equals(fresh), false);
            is("the same text", read(x, TOWN), 12);
            same("as at first", state(x), fresh);
            is("no image", x.back(), -1);
            is("nothing to undo", x.undo(), -1);
            is("no notes", x.strike(0), -1);
            is("the first note is 0", x.note(0, 0, 12, true), 0);
            is("all known", x.fits(0), 6);
            is("by one", x.count(11), 1);
            x.go(5);
            is("the same numbers", x.count(6), -167);
        }
        // Nothing is left of greater TEXTS ahead.
        SunBills y = made("");
        String great = SIX_KINDS.replace(" 1 1;", " 9 9;") + SIX_HOUSES + times(6, "work a a;") + "day 5 b;day 6 b;day 7 b;law look 0;law use 0;law price 0;";
        for (int i = 0; i < 4; i++) {
            read(y, great);
            is("five of six works", y.plan(8, 6), 5);
            read(y, "kind a 1 0;");
            y.go(7);
            is("days without weather", y.count(9), 7);
            read(y, "kind a 5 2;kind b 5 1;house h 7 1 1;work h a;");
            is("without weather", y.count(9), 0);
            is("one purse", y.count(6), 7);
            is("one work", y.plan(8, 6) * 10 + y.plan(8, 0), 10);
            is("its sum", y.plan(8, 7), 5);
            is("by weights 2 and 1", y.likely(0, 1, 0) * 10 + y.likely(0, 1, 1), 23);
            is("no laws", y.law(0, 0, 0), Long.MIN_VALUE);
            is("not told", y.weather(5), 0);
            y.go(1);
            is("looked", y.count(8), 1);
        }
    }

    private static void readingFaulty() {
        says("NONE with a FAULT, all stays");
        SunBills x = made(TOWN + "law look date <> 2;law use eager;");
        x.go(4);
        x.keep();
        x.go(2);
        x.blind(0);
        x.send(2);
        x.note(1, 1, 30, true);
        x.strike(0);
        x.known(1);
        refused(x, "a fault at once", () -> read(x, "#"), -1);
        refused(x, "a fault behind other lines", () -> read(x, "kind z 9 9;house z 9 9 9;term 9;seed 9;day 1 z;work z z;law price 1/0;law look 0;#"), -1);
        is("names as before", x.named(0, letters("z")), -1);
        is("the tape is empty", x.text(1), -2);
        is("undone", x.undo(), 1);
        is("undone", x.undo(), 0);
        is("the image", x.back(), 4);
        is("a good one then", read(x, "term 9;"), 1);
        // What was left open in E of one with a FAULT isn't open in the next one.
        for (int i = 0; i < 4; i++) {
            is("open", read(x, "law use 1+2*((((((((1"), -1);
            is("signs that wait", read(x, "law use not not 1+2*3 <"), -1);
            is("not open", read(x, "kind k 1 1;house h 1 1 1;law use ((((((((5))))))));"), 3);
            is("its value", x.law(1, 0, 0), 5);
        }
    }

    private static void readingTooMuch() {
        says("how many LINES");
        is("no lines", made("").count(0), 0);
        good("", 0);
        good("term 1;", 1);
        String most = SIX_KINDS + SIX_HOUSES + times(6, "work a a;") + "term 1;seed 1;law look 1;law use 1;law price 1;";
        good(most, 6 + 6 + 6 + 5);
        StringBuilder days = new StringBuilder(most);
        for (int i = 0; i < 20; i++) {
            days.append("day ").append(i).append(" a;");
        }
        good(days.toString(), 43);
    }

    private static void faults() {
        says("Of the latest text() that was not -2, what 0: its FAULT (0), 1: its place (NONE without).");
        SunBills x = new SunBills();
        is("at first", x.fault(0), 0);
        is("at first", x.fault(1), -1);
        read(x, "term 0;");
        is("fault", x.fault(0), 2);
        is("place", x.fault(1), 5);
        x.text(1);
        x.text(-1);
        is("behind -2", x.fault(0), 2);
        is("behind -2", x.fault(1), 5);
        read(x, "#");
        is("another", x.fault(0), 1);
        is("at 0", x.fault(1), 0);
        x.text(0);
        is("a good one", x.fault(0), 0);
        is("without a place", x.fault(1), -1);
        x.text(1);
        is("behind -2", x.fault(0), 0);
        is("behind -2", x.fault(1), -1);
    }

    private static void faultsOfWhat() {
        says("NONE for another what.");
        SunBills x = new SunBills();
        read(x, "term 0;");
        for (int what : new int[] {2, 3, -1, -2, HIGH, LOW}) {
            is("fault(" + what + ")", x.fault(what), -1);
        }
    }

    private static void named() {
        says("by its letters, 5 bits each (a is 1; the first one highest of six, 0 behind the last one)");
        SunBills x = made("kind a 1 1;kind z 1 1;kind abcdef 1 1;kind zzzzzz 1 1;kind az 1 1;kind aa 1 1;house zzzzzz 1 1 1;house z 1 1 1;");
        is("a", x.named(0, 1 << 25), 0);
        is("z", x.named(0, 26 << 25), 1);
        is("abcdef", x.named(0, ((((1 * 32 + 2) * 32 + 3) * 32 + 4) * 32 + 5) * 32 + 6), 2);
        is("zzzzzz", x.named(0, 26 * (1 + 32 + 1024 + 32768 + 1048576 + 33554432)), 3);
        is("az", x.named(0, (1 << 25) + (26 << 20)), 4);
        is("aa", x.named(0, (1 << 25) + (1 << 20)), 5);
        is("house zzzzzz", x.named(1, letters("zzzzzz")), 0);
        is("house z", x.named(1, letters("z")), 1);
    }

    private static void namedNone() {
        says("NONE: there is none such.");
        SunBills x = made("kind a 1 1;kind abcdef 1 1;house b 1 1 1;");
        for (int code : new int[] {0, 1, 1 << 20, -1, LOW, HIGH, letters("a") + 1, letters("a") | LOW, letters("a") | 1 << 30, letters("abcdef") + 1,
            letters("b"), letters("ab"), letters("abcde"), 27 << 25, 31 << 25}) {
            is("kind " + code, x.named(0, code), -1);
        }
        is("house a", x.named(1, letters("a")), -1);
        for (int what : new int[] {2, -1, LOW, HIGH}) {
            is("what " + what, x.named(what, letters("a")), -1);
        }
        read(x, "kind c 1 1;");
        is("told by the text ahead alone", x.named(0, letters("abcdef")), -1);
        is("no houses now", x.named(1, letters("b")), -1);
        is("none at all", new SunBills().named(0, 0), -1);
    }
}
