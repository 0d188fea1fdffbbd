import java.io.IOException;
import java.nio.file.Files;
import java.nio.file.Path;

/** What tests of the document's words share: a sentence is said, then calls are held against it. */
abstract class Checks {
    static final int LOW = Integer.MIN_VALUE;
    static final int HIGH = Integer.MAX_VALUE;
    static final String TOWN = "kind s 10 5;kind r 4 3;kind m 0 1;house a 50 3 10;house b 20 6 5;house c 0 0 0;"
        + "day 0 r;day 3 m;work a r;work b s;work a s;term 5;";
    static final String SIX_KINDS = "kind a 1 1;kind b 1 1;kind c 1 1;kind d 1 1;kind e 1 1;kind f 1 1;";
    static final String SIX_HOUSES = "house a 1 1 1;house b 1 1 1;house c 1 1 1;house d 1 1 1;house e 1 1 1;house f 1 1 1;";
    static final String[] LANGUAGE = {"kind", "house", "day", "work", "term", "seed", "law", "look", "use", "price",
        "or", "and", "not", "worth", "eager", "purse", "bill", "used", "weight", "date"};

    /** A call with one number of it left open. */
    interface Call {
        long of(SunBills x, int v);
    }

    /** A call. */
    interface Ask {
        long of();
    }

    private static int wrong = 0;
    private static int checks = 0;
    private static int sentences = 0;
    private static int checksBefore = 0;
    private static String sentence = "";
    private static String document;

    /** From here on checks are of these words of the document. */
    static void says(String words) {
        endSentence();
        sentence = words;
        checksBefore = checks;
        sentences++;
        if (document == null) {
            document = readDocument();
        }
        // Only told: a document that was reworded may still hold.
        if (!document.isEmpty() && !document.contains(words)) {
            System.out.println("the document doesn't say: " + words);
        }
    }

    /** From here on checks are of a promise as a whole. */
    static void promise(int number) {
        endSentence();
        sentence = "promise " + number;
        checksBefore = checks;
        sentences++;
    }

    private static void endSentence() {
        if (!sentence.isEmpty() && checks == checksBefore) {
            wrong++;
            System.out.println("without a check: " + sentence);
        }
    }

    private static String readDocument() {
        try {
            return Files.readString(Path.of("../shared/DOC.md")).replaceAll("\\s+", " ");
        } catch (IOException e) {
            return "";
        }
    }

    static void end(String name) {
        endSentence();
        System.out.println(name + ": " + sentences + " parts, " + checks + " checks, " + wrong + " wrong");
        if (wrong != 0) {
            System.exit(1);
        }
    }

    static void is(String call, long got, long due) {
        checks++;
        if (got != due) {
            bad(call + " answered " + got + ", due is " + due);
        }
    }

    static void is(String call, boolean got, boolean due) {
        is(call, got ? 1 : 0, due ? 1 : 0);
    }

    static void isNot(String call, long got, long refusal) {
        checks++;
        if (got == refusal) {
            bad(call + " answered " + got + ", and must not");
        }
    }

    static void same(String call, String got, String due) {
        checks++;
        if (!got.equals(due)) {
            bad(call + ":\n  now " + got + "\n  due " + due);
        }
    }

    private static void bad(String what) {
        wrong++;
        System.out.println("\"" + sentence + "\": " + what);
    }

    // ---- texts

    static int feed(SunBills x, String text) {
        StringBuilder padded = new StringBuilder(text);
        while (padded.length() % 20 != 0) {
            padded.append('#');
        }
        int has = 0;
        for (int i = 0; i < padded.length(); i += 20) {
            int[] v = new int[5];
            for (int j = 0; j < 20; j++) {
                v[j / 4] = v[j / 4] << 8 | padded.charAt(i + j) & 255;
            }
            has = x.feed(v[0], v[1], v[2], v[3], v[4]);
        }
        return has;
    }

    static int read(SunBills x, String text) {
        feed(x, text);
        return x.text(text.length());
    }

    static SunBills made(String text) {
        SunBills x = new SunBills();
        if (read(x, text) < 0) {
            bad("a good text has fault " + x.fault(0) + " at " + x.fault(1) + ": " + text);
        }
        return x;
    }

    static void good(String text, int lines) {
        SunBills x = new SunBills();
        is("text of " + text, read(x, text), lines);
        is("fault of " + text, x.fault(0), 0);
        is("place of " + text, x.fault(1), -1);
    }

    /** A text with a FAULT; all stays. */
    static void faulty(String text, int number, int place) {
        SunBills x = made(TOWN);
        x.go(2);
        x.blind(1);
        x.note(1, 1, 30, true);
        String before = state(x);
        is("text of " + text, read(x, text), -1);
        is("fault of " + text, x.fault(0), number);
        is("place in " + text, x.fault(1), place);
        same("all stays behind " + text, state(x), before);
    }

    /** E of a law of look, of a HOUSE of PURSE 11, EAGER 2, a KIND of WORTH 5, WEIGHT 6. */
    static long value(String e) {
        return made("kind a 5 6;house h 11 2 3;law look " + e + ";").law(0, 0, 0);
    }

    static int letters(String word) {
        int code = 0;
        for (int i = 0; i < 6; i++) {
            code = code * 32 + (i < word.length() ? word.charAt(i) - 'a' + 1 : 0);
        }
        return code;
    }

    static String times(int n, String part) {
        return part.repeat(n);
    }

    // ---- objects

    /** All that calls tell of an object without changing it. */
    static String state(SunBills x) {
        StringBuilder all = new StringBuilder(town(x)).append("| ");
        for (int what = 10; what < 13; what++) {
            all.append(x.count(what)).append(' ');
        }
        return all.append(x.fits(0)).append(' ').append(x.fits(1)).toString();
    }

    /** The same but for NOTES and what can be undone. */
    static String town(SunBills x) {
        StringBuilder all = new StringBuilder();
        for (int what = 0; what < 10; what++) {
            all.append(x.count(what)).append(' ');
        }
        for (int house = 0; house < x.count(1); house++) {
            all.append("| ");
            for (int what = 0; what < 7; what++) {
                all.append(x.house(house, what)).append(' ');
            }
            for (int law = 0; law < 3 && x.count(0) > 0; law++) {
                all.append(x.law(law, house, 0)).append(' ');
            }
        }
        for (int kind = 0; kind < x.count(0); kind++) {
            all.append("| ");
            for (int what = 0; what < 3; what++) {
                all.append(x.kind(kind, what)).append(' ');
            }
        }
        all.append("| ");
        for (int n = 0; n < 12; n++) {
            all.append(x.weather(n)).append(' ');
        }
        return all.append(x.termIn()).append(' ').toString();
    }

    /** A call that is refused: its answer, and all stays. */
    static void refused(SunBills x, String call, Ask ask, long refusal) {
        String before = state(x);
        is(call, ask.of(), refusal);
        same("all stays behind " + call, state(x), before);
    }

    /** What lies beyond two bounds is refused, and all stays; the bounds themselves are not. */
    static void bounds(String text, String call, int least, int most, long refusal, Call ask) {
        for (int v : new int[] {least, most}) {
            isNot(call + " of " + v, ask.of(made(text), v), refusal);
        }
        beyond(text, call, least, most, refusal, ask);
    }

    static void beyond(String text, String call, int least, int most, long refusal, Call ask) {
        for (int v : new int[] {least - 1, most + 1, least - 1000, most + 1000, LOW, HIGH}) {
            SunBills x = made(text);
            refused(x, call + " of " + v, () -> ask.of(x, v), refusal);
        }
    }
}
