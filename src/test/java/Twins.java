import java.util.NoSuchElementException;

/** SunBills and the plain model of the document, asked the same. */
final class Twins {
    /** The calls of the face, numbered from 1 on. */
    static final int CALLS = 43;

    final SunBills made = new SunBills();
    final Oracle due = new Oracle();
    final int[] seen = new int[CALLS + 1];
    final StringBuilder trail = new StringBuilder();

    /** A text comes behind the TAPE of both, and something else behind it. */
    String feed(String text) {
        StringBuilder padded = new StringBuilder(text);
        while (padded.length() % 20 != 0) {
            padded.append(padded.length() % 3 == 0 ? ' ' : 'x');
        }
        for (int i = 0; i < padded.length(); i += 20) {
            int[] v = new int[5];
            for (int j = 0; j < 20; j++) {
                v[j / 4] = v[j / 4] << 8 | padded.charAt(i + j);
            }
            String bad = call(1, v[0], v[1], v[2], v[3], v[4]);
            if (bad != null) {
                return bad;
            }
        }
        return null;
    }

    static int lettersOf(String word) {
        int code = 0;
        for (int i = 0; i < 6; i++) {
            code = code << 5 | (i < word.length() ? word.charAt(i) - 'a' + 1 : 0);
        }
        return code;
    }

    /** Asks both: null if they answer alike. */
    String call(int which, int a, int b, int c, int d, int e) {
        seen[which]++;
        String got;
        String want;
        try {
            got = String.valueOf(made(which, a, b, c, d, e));
        } catch (IndexOutOfBoundsException x) {
            got = x.getClass() == IndexOutOfBoundsException.class ? "throws 1" : x.toString();
        } catch (NoSuchElementException x) {
            got = "throws 2";
        }
        try {
            want = String.valueOf(due(which, a, b, c, d, e));
        } catch (IndexOutOfBoundsException x) {
            want = x.getClass() == IndexOutOfBoundsException.class ? "throws 1" : "oracle " + x;
        } catch (NoSuchElementException x) {
            want = "throws 2";
        }
        String said = "call " + which + " (" + a + ", " + b + ", " + c + ", " + d + ", " + e + ")";
        trail.append(said).append(" -> ").append(got).append('\n');
        return got.equals(want) ? null : said + " answered " + got + ", due is " + want;
    }

    private long made(int which, int a, int b, int c, int d, int e) {
        SunBills x = made;
        switch (which) {
            case 1: return x.feed(a, b, c, d, e);
            case 2: return x.text(a);
            case 3: return x.fault(a);
            case 4: return x.named(a, b);
            case 5: return x.house(a, b);
            case 6: return x.kind(a, b);
            case 7: return x.weather(a);
            case 8: return x.law(a, b, c);
            case 9: return x.blind(a);
            case 10: return x.send(a) ? 1 : 0;
            case 11: return x.lend(a, b, c);
            case 12: return x.go(a);
            case 13: return x.ahead(a, b, c);
            case 14: return x.sold(a);
            case 15: return x.credit(a);
            case 16: return x.plan(a, b);
            case 17: return x.share(a, b, c, d);
            case 18: return x.waits(a, b);
            case 19: return x.came(a, b, c);
            case 20: return x.likely(a, b, c);
            case 21: return x.rests(a, b, c);
            case 22: return x.rest(a, b, c, d);
            case 23: return x.richest();
            case 24: return x.leave(a, b);
            case 25: return x.blinds(a, b);
            case 26: return x.among(a);
            case 27: return x.rescue();
            case 28: return x.termIn();
            case 29: return x.often(a, b);
            case 30: return x.owes(a);
            case 31: return x.have(a);
            case 32: return x.dearest();
            case 33: return x.note(a, b, c, (d & 1) == 0);
            case 34: return x.strike(a);
            case 35: return x.known(a) ? 1 : 0;
            case 36: return x.fits(a);
            case 37: return x.ask(a, b);
            case 38: return x.chance(a, b, c);
            case 39: return x.tried(a, b, c);
            case 40: return x.undo();
            case 41: return x.keep();
            case 42: return x.back();
            case 43: return x.count(a);
            default: return 0;
        }
    }

    private long due(int which, int a, int b, int c, int d, int e) {
        Oracle x = due;
        switch (which) {
            case 1: return x.feed(a, b, c, d, e);
            case 2: return x.text(a);
            case 3: return x.fault(a);
            case 4: return x.named(a, b);
            case 5: return x.house(a, b);
            case 6: return x.kind(a, b);
            case 7: return x.weather(a);
            case 8: return x.law(a, b, c);
            case 9: return x.blind(a);
            case 10: return x.send(a) ? 1 : 0;
            case 11: return x.lend(a, b, c);
            case 12: return x.go(a);
            case 13: return x.ahead(a, b, c);
            case 14: return x.sold(a);
            case 15: return x.credit(a);
            case 16: return x.plan(a, b);
            case 17: return x.share(a, b, c, d);
            case 18: return x.waits(a, b);
            case 19: return x.came(a, b, c);
            case 20: return x.likely(a, b, c);
            case 21: return x.rests(a, b, c);
            case 22: return x.rest(a, b, c, d);
            case 23: return x.richest();
            case 24: return x.leave(a, b);
            case 25: return x.blinds(a, b);
            case 26: return x.among(a);
            case 27: return x.rescue();
            case 28: return x.termIn();
            case 29: return x.often(a, b);
            case 30: return x.owes(a);
            case 31: return x.have(a);
            case 32: return x.dearest();
            case 33: return x.note(a, b, c, (d & 1) == 0);
            case 34: return x.strike(a);
            case 35: return x.known(a) ? 1 : 0;
            case 36: return x.fits(a);
            case 37: return x.ask(a, b);
            case 38: return x.chance(a, b, c);
            case 39: return x.tried(a, b, c);
            case 40: return x.undo();
            case 41: return x.keep();
            case 42: return x.back();
            case 43: return x.count(a);
            default: return 0;
        }
    }
}
