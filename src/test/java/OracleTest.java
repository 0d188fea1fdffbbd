import java.util.Random;

/** Random runs of calls: SunBills answers what the plain model of the document answers. */
public final class OracleTest {
    private static final int RUNS = 1500;
    private static final int CALLS = 400;
    private static final String[] OWN = {"a", "b", "c", "d", "e", "f", "g", "sun", "rain", "hail", "abcdef", "z"};
    private static final String[] NAMES = {"worth", "eager", "purse", "bill", "used", "weight", "date"};
    private static final String[] SIGNS = {" or ", " and ", "<", "<=", "=", "<>", ">=", ">", "+", "-", "*", "/"};
    private static final String JUNK = ";()<>=+-*/ \n09az#A";

    private final Random random;
    private final Twins twins = new Twins();
    private final Oracle due = twins.due;
    private final int leaning;

    private OracleTest(long seed) {
        random = new Random(seed);
        leaning = below(6);
    }

    public static void main(String[] args) {
        int wrong = 0;
        int[] seen = new int[Twins.CALLS + 1];
        int[] faults = new int[5];
        for (int run = 0; run < RUNS && wrong < 5; run++) {
            OracleTest test = new OracleTest(run);
            String bad = test.run(faults);
            for (int i = 0; i < seen.length; i++) {
                seen[i] += test.twins.seen[i];
            }
            if (bad != null) {
                wrong++;
                System.out.println("run " + run + ": " + bad);
                System.out.println(test.twins.trail);
            }
        }
        for (int i = 1; i <= Twins.CALLS; i++) {
            if (wrong == 0 && seen[i] == 0) {
                wrong++;
                System.out.println("call " + i + " was never made");
            }
        }
        for (int i = 0; i < faults.length; i++) {
            if (wrong == 0 && faults[i] < 100) {
                wrong++;
                System.out.println("fault " + i + " came only " + faults[i] + " times");
            }
        }
        System.out.println("oracle: " + (wrong == 0 ? "all answers are as due" : wrong + " runs are wrong"));
        if (wrong != 0) {
            System.exit(1);
        }
    }

    private String run(int[] faults) {
        int calls = 0;
        while (calls < CALLS) {
            if (calls == 0 || due.told.houses.isEmpty() && below(4) > 0 || below(80) == 0) {
                String text = makeText();
                twins.trail.setLength(0);
                twins.trail.append(text).append('\n');
                int n = text.length();
                twins.call(2, 0, 0, 0, 0, 0); // what is on the TAPE goes
                String bad = twins.feed(text);
                calls += (n + 19) / 20;
                if (bad == null) {
                    bad = twins.call(2, n, 0, 0, 0, 0);
                    faults[due.fault(0)]++;
                }
                for (int what = -1; bad == null && what < 3; what++) {
                    bad = twins.call(3, what, 0, 0, 0, 0);
                }
                calls += 5;
                if (bad != null) {
                    return bad;
                }
            }
            int which = which();
            String bad = twins.call(which, arg(which, 0), arg(which, 1), arg(which, 2), arg(which, 3), arg(which, 4));
            calls++;
            if (bad != null) {
                return bad;
            }
        }
        for (int what = 0; what < 13; what++) {
            String bad = twins.call(43, what, 0, 0, 0, 0);
            if (bad != null) {
                return bad;
            }
        }
        return null;
    }

    /** Each run has a leaning: to all alike, to what is done, to NOTES, to many DAYS. */
    private int which() {
        if (below(3) > 0) {
            switch (leaning) {
                case 1:
                    return new int[] {9, 10, 11, 40, 5, 43, 12, 40}[below(below(4) == 0 ? 8 : 7)];
                case 2:
                    return 33 + below(5);
                case 3:
                    return 12;
                default:
                    break;
            }
        }
        int which = 3 + below(41);
        return below(60) == 0 ? 1 + below(2) : which;
    }

    // ---- texts

    private String pick(String[] row) {
        return row[random.nextInt(row.length)];
    }

    private String blank() {
        return random.nextInt(6) == 0 ? " \n" : " ";
    }

    private int below(int n) {
        return random.nextInt(n);
    }

    private String number(int most) {
        int kind = below(60);
        if (kind == 0 && below(3) == 0) {
            return String.valueOf(most + 1);
        }
        if (kind < 4) {
            return String.valueOf(most);
        }
        if (kind == 4) {
            return "00" + below(most + 1);
        }
        if (kind == 5 && below(4) == 0) {
            return "99999999999999999999999";
        }
        return String.valueOf(kind < 12 ? 0 : kind < 30 ? below(Math.min(most, 9) + 1) : below(most + 1));
    }

    private String expression(int depth) {
        StringBuilder e = new StringBuilder(depth == 0 && below(6) == 0 ? "0-" : "");
        int parts = 1 + below(depth > 1 ? 2 : 3);
        for (int i = 0; i < parts; i++) {
            if (i > 0) {
                e.append(pick(SIGNS));
            }
            if (below(i == 0 ? 9 : 60) == 0) {
                e.append("not ");
            }
            int kind = below(10);
            if (kind < 2 && depth < 10) {
                e.append('(').append(expression(depth + 1)).append(')');
            } else if (kind < 7) {
                e.append(pick(NAMES));
            } else {
                e.append(below(3) == 0 ? number(9999) : String.valueOf(below(12)));
            }
        }
        return e.toString();
    }

    private String makeText() {
        StringBuilder t = new StringBuilder();
        int kinds = below(8) == 0 ? below(8) : 1 + below(6);
        int houses = below(8) == 0 ? below(8) : 1 + below(6);
        boolean clean = below(4) > 0;
        for (int i = 0; i < kinds; i++) {
            t.append("kind ").append(clean ? OWN[i] : pick(OWN)).append(blank()).append(number(below(3) == 0 ? 99 : 12)).append(blank())
                .append(below(5) == 0 ? "0" : number(99)).append(';');
        }
        for (int i = 0; i < houses; i++) {
            t.append("house ").append(clean ? OWN[i] : pick(OWN)).append(' ').append(number(999)).append(' ').append(number(9)).append(' ')
                .append(number(99)).append(';');
        }
        int lines = below(14);
        for (int i = 0; i < lines; i++) {
            switch (below(7)) {
                case 0:
                case 1:
                    t.append("work ").append(OWN[below(clean ? Math.max(1, houses) : 8)]).append(' ').append(OWN[below(clean ? Math.max(1, kinds) : 8)]).append(';');
                    break;
                case 2:
                case 3:
                    t.append("day ").append(below(clean ? 100 : 15)).append(' ').append(OWN[below(clean ? Math.max(1, kinds) : 8)]).append(';');
                    break;
                default:
                    break;
            }
        }
        if (below(2) == 0) {
            t.append("term ").append(below(30) == 0 ? "0" : number(below(2) == 0 ? 5 : 99)).append(';');
        }
        if (below(2) == 0) {
            t.append(blank()).append("seed ").append(number(99999)).append(';');
        }
        for (String law : new String[] {"look", "use", "price"}) {
            if (below(5) > 1) {
                t.append("law ").append(law).append(' ').append(expression(0)).append(';').append(blank());
            }
        }
        spoil(t, clean);
        if (t.length() > 700) {
            t.setLength(700);
        }
        return t.toString();
    }

    private void spoil(StringBuilder t, boolean clean) {
        if (clean || t.length() == 0) {
            return;
        }
        switch (below(6)) {
            case 0:
                t.setCharAt(below(t.length()), JUNK.charAt(below(JUNK.length())));
                break;
            case 1:
                t.deleteCharAt(below(t.length()));
                break;
            case 2:
                t.insert(below(t.length()), JUNK.charAt(below(JUNK.length())));
                break;
            case 3:
                t.setLength(below(t.length()));
                break;
            case 4:
                t.append(pick(new String[] {"term 3;term", "seed 1;seed 2;", "law look 1;law look 1;", "law use " + "(".repeat(below(11)), "kind",
                    "law use " + "1+".repeat(below(70)) + "1;", "law use 1 < 2 < 3;", "law use 1 + not 2;", "law price not not 1 = not 2;"}));
                break;
            default:
                break;
        }
    }

    // ---- calls

    private int arg(int which, int i) {
        int kind = below(40);
        if (kind == 0) {
            return random.nextInt();
        }
        if (kind == 1) {
            return new int[] {Integer.MIN_VALUE, Integer.MAX_VALUE, -1, -2, 31, 32, 64, 100, 200, 201}[below(10)];
        }
        switch (which) {
            case 2:
                return below(40);
            case 4:
                return i == 0 ? below(3) : Twins.lettersOf(pick(OWN));
            case 5:
                return i == 0 ? someHouse() : below(8);
            case 6:
                return i == 0 ? someKind() : below(4);
            case 7:
                return below(202);
            case 8:
                return i == 0 ? below(3) : i == 1 ? someHouse() : someKind();
            case 9:
            case 14:
            case 15:
            case 30:
                return someHouse();
            case 10:
                return someKind();
            case 11:
                return i < 2 ? someHouse() : 1 + below(below(2) == 0 ? 20 : 1000);
            case 12:
                return leaning == 1 ? (below(9) == 0 ? 1 : 0) : leaning == 3 && below(2) == 0 ? 200 : below(3) == 0 ? below(3) : below(201);
            case 13:
                return i == 0 ? below(201) : i == 1 ? below(5) : someHouse();
            case 16:
                return i == 0 ? below(10) : below(9);
            case 17:
                return i == 0 ? someHouses() : i == 1 ? someHouse() : i == 2 ? someKind() : below(2);
            case 18:
                return i == 0 ? below(8) : below(2);
            case 19:
                return i == 2 ? (below(3) == 0 ? 0 : below(100)) : i == 1 ? below(6) : someHouse();
            case 20:
                return i == 2 ? below(2) : i == 1 ? below(6) : someKind();
            case 21:
            case 22:
                return i < 2 ? someHouse() : i == 2 ? someKind() : below(3);
            case 24:
                return i == 0 ? someHouses() : someKind();
            case 25:
                return i == 0 ? below(62) : below(2);
            case 26:
                return below(2) == 0 ? below(50) : below(3000);
            case 29:
                return i == 1 ? below(202) : someKind();
            case 31:
                return someHouses();
            case 33:
                return i == 0 ? below(4) : i == 1 ? someHouse() : below(below(2) == 0 ? 100 : 1000);
            case 34:
                return below(2 + due.notes.size());
            case 35:
                return below(3) > 0 ? -1 : below(3 + due.notes.size()) - 1;
            case 36:
            case 37:
                return i == 0 ? below(4) : below(2);
            case 38:
                return i == 0 ? random.nextInt() & Integer.MAX_VALUE : i == 1 ? 1 + below(99) : someHouse();
            case 39:
                return i == 0 ? below(5) : i == 1 ? (below(3) > 0 ? 0 : someHouse()) : below(201);
            case 43:
                return below(14) - 1;
            default:
                return below(7);
        }
    }

    private int someHouse() {
        return below(12) == 0 ? below(8) - 1 : below(Math.max(1, due.told.houses.size()));
    }

    private int someKind() {
        return below(12) == 0 ? below(8) - 1 : below(Math.max(1, due.told.kinds.size()));
    }

    private int someHouses() {
        return below(20) == 0 ? below(66) - 1 : below(1 << due.told.houses.size());
    }
}
