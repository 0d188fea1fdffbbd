import java.math.BigInteger;
import java.util.ArrayList;
import java.util.Arrays;
import java.util.Comparator;
import java.util.HashMap;
import java.util.HashSet;
import java.util.List;
import java.util.Map;
import java.util.NoSuchElementException;
import java.util.Set;
import java.util.TreeMap;

/**
 * The document once more, in its plainest form and by other ways than SunBills takes: recursive descent,
 * trees, all orders, all sets, big numbers. It is slow and makes many objects; it is only compared with.
 */
final class Oracle {
    static final int LOW = Integer.MIN_VALUE;

    // ---- E as a tree

    abstract static class Tree {
        abstract BigInteger of(Map<String, Long> names) throws Bad;
    }

    static final class Bad extends Exception { }

    static final class Leaf extends Tree {
        final String word;

        Leaf(String word) {
            this.word = word;
        }

        @Override BigInteger of(Map<String, Long> names) {
            return names.containsKey(word) ? BigInteger.valueOf(names.get(word)) : new BigInteger(word);
        }
    }

    static final class Knot extends Tree {
        final String sign;
        final Tree left;
        final Tree right;

        Knot(String sign, Tree left, Tree right) {
            this.sign = sign;
            this.left = left;
            this.right = right;
        }

        @Override BigInteger of(Map<String, Long> names) throws Bad {
            BigInteger l = left.of(names);
            BigInteger r = right == null ? BigInteger.ZERO : right.of(names);
            BigInteger v = value(l, r);
            if (v.abs().compareTo(BigInteger.TEN.pow(12)) > 0) {
                throw new Bad();
            }
            return v;
        }

        private BigInteger value(BigInteger l, BigInteger r) throws Bad {
            boolean lt = l.signum() != 0;
            boolean rt = r.signum() != 0;
            int c = l.compareTo(r);
            switch (sign) {
                case "not": return bit(!lt);
                case "or": return bit(lt || rt);
                case "and": return bit(lt && rt);
                case "<": return bit(c < 0);
                case "<=": return bit(c <= 0);
                case "=": return bit(c == 0);
                case "<>": return bit(c != 0);
                case ">=": return bit(c >= 0);
                case ">": return bit(c > 0);
                case "+": return l.add(r);
                case "-": return l.subtract(r);
                case "*": return l.multiply(r);
                default:
                    if (!rt) {
                        throw new Bad();
                    }
                    return l.divide(r);
            }
        }

        private static BigInteger bit(boolean b) {
            return b ? BigInteger.ONE : BigInteger.ZERO;
        }
    }

    // ---- what is told

    static final class Told {
        final List<String> kindNames = new ArrayList<>();
        final List<int[]> kinds = new ArrayList<>();
        final List<String> houseNames = new ArrayList<>();
        final List<int[]> houses = new ArrayList<>();
        final List<int[]> works = new ArrayList<>();
        final Map<Integer, Integer> days = new TreeMap<>();
        final Map<String, Tree> laws = new HashMap<>();
        Integer term;
        Integer seed;
        int knots;
        int lines;

        int worth(int k) {
            return kinds.get(k)[0];
        }

        int weight(int k) {
            return kinds.get(k)[1];
        }

        int term() {
            return term == null ? 30 : term;
        }

        int weights() {
            return kinds.stream().mapToInt(k -> k[1]).sum();
        }
    }

    static final class Fault extends Exception {
        final int number;
        final int place;

        Fault(int number, int place) {
            this.number = number;
            this.place = place;
        }
    }

    static final Set<String> LINE_WORDS = new HashSet<>(Arrays.asList("kind", "house", "day", "work", "term", "seed", "law"));
    static final Set<String> LAW_WORDS = new HashSet<>(Arrays.asList("look", "use", "price"));
    static final Set<String> NAME_WORDS =
        new HashSet<>(Arrays.asList("worth", "eager", "purse", "bill", "used", "weight", "date"));
    static final Set<String> LANGUAGE = new HashSet<>(Arrays.asList("or", "and", "not"));

    static {
        LANGUAGE.addAll(LINE_WORDS);
        LANGUAGE.addAll(LAW_WORDS);
        LANGUAGE.addAll(NAME_WORDS);
    }

    static final class Parser {
        final String text;
        int at;
        int place;
        String word;
        final Told told = new Told();
        int open;

        Parser(String text) {
            this.text = text;
        }

        /** Looks at the next TOKEN: "" at the end, "?" for one that is none. */
        void peek() {
            int i = at;
            while (i < text.length() && (text.charAt(i) == ' ' || text.charAt(i) == '\n')) {
                i++;
            }
            place = i;
            if (i >= text.length()) {
                word = "";
                return;
            }
            String rest = text.substring(i);
            for (String pattern : new String[] {"[a-z]+", "[0-9]+", "<=|<>|>=|[;()<>=+*/-]"}) {
                java.util.regex.Matcher m = java.util.regex.Pattern.compile(pattern).matcher(rest);
                if (m.lookingAt()) {
                    word = m.group();
                    if (word.matches("[a-z]{7,}")) {
                        word = "?";
                    }
                    return;
                }
            }
            word = "?";
        }

        void take() {
            at = place + word.length();
            peek();
        }

        Fault fault(int number) {
            return new Fault(number, place);
        }

        void must(boolean so, int number) throws Fault {
            if (!so) {
                throw fault(number);
            }
        }

        Told parse() throws Fault {
            peek();
            while (!word.isEmpty()) {
                line();
                must(word.equals(";"), 1);
                take();
                told.lines++;
            }
            return told;
        }

        int number(int least, int most) throws Fault {
            must(word.matches("[0-9]+"), 1);
            BigInteger n = new BigInteger(word);
            must(n.compareTo(BigInteger.valueOf(least)) >= 0 && n.compareTo(BigInteger.valueOf(most)) <= 0, 2);
            return n.intValue();
        }

        int takeNumber(int least, int most) throws Fault {
            int n = number(least, most);
            take();
            return n;
        }

        void own() throws Fault {
            must(word.matches("[a-z]{1,6}") && !LANGUAGE.contains(word), 1);
        }

        void line() throws Fault {
            must(LINE_WORDS.contains(word), 1);
            String which = word;
            switch (which) {
                case "kind":
                    must(told.kinds.size() < 6, 2);
                    take();
                    own();
                    must(!told.kindNames.contains(word), 3);
                    told.kindNames.add(word);
                    take();
                    told.kinds.add(new int[] {takeNumber(0, 99), takeNumber(0, 99)});
                    break;
                case "house":
                    must(told.houses.size() < 6, 2);
                    take();
                    own();
                    must(!told.houseNames.contains(word), 3);
                    told.houseNames.add(word);
                    take();
                    told.houses.add(new int[] {takeNumber(0, 999), takeNumber(0, 9), takeNumber(0, 99)});
                    break;
                case "day":
                    must(told.days.size() < 20, 2);
                    take();
                    int day = number(0, 99);
                    must(!told.days.containsKey(day), 3);
                    take();
                    own();
                    must(told.kindNames.contains(word), 4);
                    told.days.put(day, told.kindNames.indexOf(word));
                    take();
                    break;
                case "work":
                    must(told.works.size() < 6, 2);
                    take();
                    own();
                    must(told.houseNames.contains(word), 4);
                    int house = told.houseNames.indexOf(word);
                    take();
                    own();
                    must(told.kindNames.contains(word), 4);
                    told.works.add(new int[] {house, told.kindNames.indexOf(word)});
                    take();
                    break;
                case "term":
                    must(told.term == null, 3);
                    take();
                    told.term = takeNumber(1, 99);
                    break;
                case "seed":
                    must(told.seed == null, 3);
                    take();
                    told.seed = takeNumber(0, 99999);
                    break;
                default:
                    take();
                    must(LAW_WORDS.contains(word), 1);
                    String law = word;
                    must(!told.laws.containsKey(law), 3);
                    take();
                    told.laws.put(law, e());
                    break;
            }
        }

        void knot() throws Fault {
            told.knots++;
            must(told.knots <= 64, 2);
        }

        Tree e() throws Fault {
            Tree t = a();
            while (word.equals("or")) {
                knot();
                take();
                t = new Knot("or", t, a());
            }
            return t;
        }

        Tree a() throws Fault {
            Tree t = b();
            while (word.equals("and")) {
                knot();
                take();
                t = new Knot("and", t, b());
            }
            return t;
        }

        Tree b() throws Fault {
            if (word.equals("not")) {
                knot();
                take();
                return new Knot("not", b(), null);
            }
            return c();
        }

        Tree c() throws Fault {
            Tree t = s();
            if (word.matches("<|<=|=|<>|>=|>")) {
                knot();
                String sign = word;
                take();
                t = new Knot(sign, t, s());
            }
            return t;
        }

        Tree s() throws Fault {
            Tree t = t();
            while (word.matches("[+-]")) {
                knot();
                String sign = word;
                take();
                t = new Knot(sign, t, t());
            }
            return t;
        }

        Tree t() throws Fault {
            Tree t = p();
            while (word.matches("[*/]")) {
                knot();
                String sign = word;
                take();
                t = new Knot(sign, t, p());
            }
            return t;
        }

        Tree p() throws Fault {
            if (word.equals("(")) {
                open++;
                must(open <= 8, 2);
                take();
                Tree t = e();
                must(word.equals(")"), 1);
                open--;
                take();
                return t;
            }
            if (NAME_WORDS.contains(word)) {
                knot();
            } else {
                must(word.matches("[0-9]+"), 1);
                knot();
                number(0, 9999);
            }
            Tree t = new Leaf(NAME_WORDS.contains(word) ? word : new BigInteger(word).toString());
            take();
            return t;
        }
    }

    // ---- how it stands

    static final class World implements Cloneable {
        int[] purse;
        int[] bill;
        int[] used;
        int[] looked;
        boolean[] sold;
        boolean[] down;
        int[] times;
        int dull;
        int day;
        int sent = -1;
        long number;

        World(Told t) {
            int h = t.houses.size();
            purse = t.houses.stream().mapToInt(x -> x[0]).toArray();
            bill = new int[h];
            used = new int[h];
            looked = new int[h];
            sold = new boolean[h];
            down = new boolean[h];
            times = new int[t.kinds.size()];
            number = t.seed == null ? 0 : t.seed;
        }

        World copy() {
            try {
                World w = (World) clone();
                w.purse = purse.clone();
                w.bill = bill.clone();
                w.used = used.clone();
                w.looked = looked.clone();
                w.sold = sold.clone();
                w.down = down.clone();
                w.times = times.clone();
                return w;
            } catch (CloneNotSupportedException e) {
                throw new AssertionError(e);
            }
        }

        int soldUp() {
            int n = 0;
            for (boolean s : sold) {
                n += s ? 1 : 0;
            }
            return n;
        }
    }

    StringBuilder tape = new StringBuilder();
    Told told = new Told();
    World now = new World(told);
    World image;
    int fault;
    int faultPlace = -1;
    final List<World> undos = new ArrayList<>();
    final List<int[]> notes = new ArrayList<>();
    int known = -1;

    private int asItGoes(int day) {
        if (told.days.containsKey(day)) {
            return told.days.get(day);
        }
        int best = -1;
        for (int k = 0; k < told.kinds.size(); k++) {
            if (told.weight(k) > 0 && (best < 0 || told.weight(k) > told.weight(best))) {
                best = k;
            }
        }
        return best;
    }

    private long draw(World w) {
        w.number = BigInteger.valueOf(w.number).multiply(BigInteger.valueOf(1103515245L))
            .add(BigInteger.valueOf(12345)).mod(BigInteger.ONE.shiftLeft(31)).longValue();
        return w.number / 65536;
    }

    private int pick(World w, boolean numbers) {
        if (w.sent >= 0) {
            return w.sent;
        }
        if (told.days.containsKey(w.day) || !numbers) {
            return asItGoes(w.day);
        }
        List<Integer> urn = new ArrayList<>();
        Set<Integer> several = new HashSet<>();
        for (int k = 0; k < told.kinds.size(); k++) {
            for (int i = 0; i < told.weight(k); i++) {
                urn.add(k);
                several.add(k);
            }
        }
        if (urn.isEmpty()) {
            return -1;
        }
        return several.size() == 1 ? urn.get(0) : urn.get((int) (draw(w) % urn.size()));
    }

    private Map<String, Long> names(World w, int h, int k, int otherwise) {
        Map<String, Long> m = new HashMap<>();
        m.put("worth", otherwise == 1 ? 0L : told.worth(k));
        m.put("weight", (long) told.weight(k));
        m.put("eager", otherwise == 3 ? 9L : told.houses.get(h)[1]);
        m.put("purse", (long) w.purse[h]);
        m.put("bill", (long) w.bill[h]);
        m.put("used", (long) w.used[h]);
        m.put("date", (long) w.day);
        return m;
    }

    private Long lawOf(String law, Map<String, Long> names) {
        if (!told.laws.containsKey(law)) {
            return null;
        }
        try {
            return told.laws.get(law).of(names).longValueExact();
        } catch (Bad e) {
            return null;
        }
    }

    private void pass(World w, boolean numbers, int otherwise) {
        int k = pick(w, numbers);
        if (k < 0) {
            w.dull++;
        } else {
            w.times[k]++;
            for (int h = 0; h < told.houses.size(); h++) {
                if (!w.sold[h] && !w.down[h]) {
                    Map<String, Long> names = names(w, h, k, otherwise);
                    Long look = lawOf("look", names);
                    if (look != null && look == 0) {
                        continue;
                    }
                    w.looked[h]++;
                    Long use = lawOf("use", names);
                    long u = use == null ? names.get("eager") : Math.max(0, Math.min(99, use));
                    w.used[h] = (int) Math.min(99999, w.used[h] + u);
                    names.put("used", (long) w.used[h]);
                    Long price = lawOf("price", names);
                    long p = price == null ? names.get("worth") * u : Math.max(-999, Math.min(999, price));
                    w.bill[h] = (int) Math.max(-99999, Math.min(99999, w.bill[h] + p));
                }
            }
        }
        if (otherwise != 4 && (w.day + 1) % told.term() == 0) {
            for (int h = 0; h < told.houses.size(); h++) {
                if (!w.sold[h]) {
                    w.purse[h] = Math.min(99999, w.purse[h] + told.houses.get(h)[2] - w.bill[h]);
                    w.bill[h] = 0;
                    w.sold[h] = w.purse[h] < 0;
                }
            }
        }
        w.day++;
        w.sent = -1;
    }

    private World after(World from, int n, boolean numbers, int otherwise) {
        World w = from.copy();
        for (int i = 0; i < n; i++) {
            pass(w, numbers, otherwise);
        }
        return w;
    }

    private boolean isHouse(int h) {
        return h >= 0 && h < told.houses.size();
    }

    private boolean isKind(int k) {
        return k >= 0 && k < told.kinds.size();
    }

    private boolean isSet(int bits) {
        return bits >= 0 && bits < 1 << told.houses.size();
    }

    private static boolean in(int v, int a, int b) {
        return a <= v && v <= b;
    }

    private int pay(int h, int k) {
        return told.worth(k) * told.houses.get(h)[1];
    }

    // ---- the face

    int feed(int a, int b, int c, int d, int e) {
        if (tape.length() + 20 > 700) {
            return -1;
        }
        for (int v : new int[] {a, b, c, d, e}) {
            tape.append((char) (v >>> 24)).append((char) (v >>> 16 & 255)).append((char) (v >>> 8 & 255)).append((char) (v & 255));
        }
        return tape.length();
    }

    int text(int n) {
        if (n < 0 || n > tape.length()) {
            return -2;
        }
        String text = tape.substring(0, n);
        tape = new StringBuilder();
        try {
            Told t = new Parser(text).parse();
            told = t;
            now = new World(t);
            image = null;
            undos.clear();
            notes.clear();
            known = -1;
            fault = 0;
            faultPlace = -1;
            return t.lines;
        } catch (Fault f) {
            fault = f.number;
            faultPlace = f.place;
            return -1;
        }
    }

    int fault(int what) {
        return what == 0 ? fault : what == 1 ? faultPlace : -1;
    }

    int named(int what, int letters) {
        List<String> names = what == 0 ? told.kindNames : what == 1 ? told.houseNames : new ArrayList<>();
        for (String name : names) {
            String padded = (name + "``````").substring(0, 6);
            int code = 0;
            for (char c : padded.toCharArray()) {
                code = code * 32 + (c - '`');
            }
            if (code == letters) {
                return names.indexOf(name);
            }
        }
        return -1;
    }

    int house(int house, int what) {
        if (!isHouse(house)) {
            throw new IndexOutOfBoundsException();
        }
        if (!in(what, 0, 6)) {
            throw new NoSuchElementException();
        }
        return new int[] {now.purse[house], now.bill[house], now.used[house], told.houses.get(house)[1], now.looked[house],
            now.sold[house] ? 1 : 0, now.down[house] ? 1 : 0}[what];
    }

    int kind(int kind, int what) {
        return isKind(kind) && in(what, 0, 2) ? new int[] {told.worth(kind), told.weight(kind), now.times[kind]}[what] : -1;
    }

    int weather(int n) {
        if (!in(n, 0, 200)) {
            return -1;
        }
        int k = pick(after(now, n, false, -1), false);
        return k < 0 ? -2 : k;
    }

    long law(int what, int house, int kind) {
        if (!in(what, 0, 2) || !isHouse(house) || !isKind(kind)) {
            return Long.MIN_VALUE;
        }
        Long v = lawOf(new String[] {"look", "use", "price"}[what], names(now, house, kind, -1));
        return v == null ? Long.MIN_VALUE : v;
    }

    private void did() {
        undos.add(now.copy());
        if (undos.size() > 20) {
            undos.remove(0);
        }
    }

    int blind(int house) {
        if (!isHouse(house)) {
            return -1;
        }
        did();
        now.down[house] = !now.down[house];
        return now.down[house] ? 1 : 0;
    }

    boolean send(int kind) {
        if (!isKind(kind)) {
            return false;
        }
        did();
        now.sent = kind;
        return true;
    }

    int lend(int from, int to, int much) {
        if (!isHouse(from) || !isHouse(to) || from == to || !in(much, 1, 999)) {
            return -1;
        }
        if (now.sold[from] || now.sold[to] || now.purse[from] < much) {
            return -2;
        }
        did();
        now.purse[from] -= much;
        now.purse[to] = Math.min(99999, now.purse[to] + much);
        return now.purse[to];
    }

    int go(int n) {
        if (!in(n, 0, 200) || now.day + n > 9000) {
            return -1;
        }
        now = after(now, n, true, -1);
        if (n > 0) {
            undos.clear();
        }
        return now.day;
    }

    int ahead(int n, int what, int house) {
        if (!in(n, 0, 200) || !in(what, 0, 4) || what < 3 && !isHouse(house)) {
            return LOW;
        }
        World w = after(now, n, false, -1);
        switch (what) {
            case 0: return w.purse[house];
            case 1: return w.bill[house];
            case 2: return w.used[house];
            case 3: return w.soldUp();
            default: return Arrays.stream(w.looked).sum() - Arrays.stream(now.looked).sum();
        }
    }

    int sold(int house) {
        return until(house, 0);
    }

    int credit(int house) {
        return until(house, 1);
    }

    int owes(int house) {
        return until(house, 2);
    }

    private int until(int h, int what) {
        if (!isHouse(h)) {
            return -1;
        }
        World w = now.copy();
        for (int d = 0; d <= 199; d++) {
            boolean so = what == 0 ? w.sold[h] : what == 1 ? w.bill[h] < 0 && !w.sold[h] : w.sold[h] || w.purse[h] - w.bill[h] < 0;
            if (so) {
                return d;
            }
            pass(w, false, -1);
        }
        return -2;
    }

    int plan(int n, int what) {
        if (!in(n, 0, 8) || !in(what, 0, 7)) {
            return -1;
        }
        int[] kinds = new int[n];
        for (int i = 0; i < n; i++) {
            kinds[i] = weather(i);
        }
        bestPlan = null;
        tryPlans(kinds, new int[told.works.size()], 0, new boolean[n]);
        int laid = 0;
        int sum = 0;
        for (int i = 0; i < bestPlan.length; i++) {
            if (bestPlan[i] < n) {
                laid++;
                sum += pay(told.works.get(i)[0], told.works.get(i)[1]);
            }
        }
        if (what >= 6) {
            return what == 6 ? laid : sum;
        }
        return what < bestPlan.length && bestPlan[what] < n ? bestPlan[what] : -2;
    }

    private int[] bestPlan;

    private long scoreOf(int[] plan, int n) {
        long score = 0;
        for (int i = 0; i < plan.length; i++) {
            if (plan[i] < n) {
                score += 1000000 - pay(told.works.get(i)[0], told.works.get(i)[1]);
            }
        }
        return score;
    }

    /** In the order of the plans, none (n) last, so that only a better one takes the place of an earlier one. */
    private void tryPlans(int[] kinds, int[] plan, int work, boolean[] taken) {
        int n = kinds.length;
        if (work == plan.length) {
            if (bestPlan == null || scoreOf(plan, n) > scoreOf(bestPlan, n)) {
                bestPlan = plan.clone();
            }
            return;
        }
        for (int d = 0; d < n; d++) {
            if (!taken[d] && kinds[d] == told.works.get(work)[1]) {
                taken[d] = true;
                plan[work] = d;
                tryPlans(kinds, plan, work + 1, taken);
                taken[d] = false;
            }
        }
        plan[work] = n;
        tryPlans(kinds, plan, work + 1, taken);
    }

    int share(int houses, int house, int kind, int what) {
        if (!isSet(houses) || !isHouse(house) || !isKind(kind) || !in(what, 0, 1)) {
            return -1;
        }
        List<Integer> some = new ArrayList<>();
        for (int h = 0; h < told.houses.size(); h++) {
            if ((houses >> h & 1) == 1) {
                some.add(h);
            }
        }
        if (!some.contains(house)) {
            return what;
        }
        long[] sums = new long[2];
        orders(some, new ArrayList<>(), house, kind, sums);
        return least(BigInteger.valueOf(sums[0]), BigInteger.valueOf(sums[1]))[what].intValue();
    }

    private void orders(List<Integer> left, List<Integer> there, int house, int kind, long[] sums) {
        if (left.isEmpty()) {
            int most = 0;
            for (int h : there) {
                int now = Math.max(most, pay(h, kind));
                if (h == house) {
                    sums[0] += now - most;
                    sums[1]++;
                }
                most = now;
            }
            return;
        }
        for (int h : left) {
            List<Integer> rest = new ArrayList<>(left);
            rest.remove((Integer) h);
            List<Integer> next = new ArrayList<>(there);
            next.add(h);
            orders(rest, next, house, kind, sums);
        }
    }

    private static BigInteger[] least(BigInteger above, BigInteger below) {
        BigInteger g = above.gcd(below);
        return new BigInteger[] {above.divide(g), below.divide(g)};
    }

    long waits(int n, int what) {
        if (!in(n, 0, 6) || !in(what, 0, 1)) {
            return -1;
        }
        BigInteger[] v = {BigInteger.ZERO, BigInteger.ONE};
        for (int i = 0; i < n && told.weights() > 0; i++) {
            BigInteger above = BigInteger.ZERO;
            for (int k = 0; k < told.kinds.size(); k++) {
                BigInteger worth = BigInteger.valueOf(told.worth(k)).multiply(v[1]);
                above = above.add(worth.max(v[0]).multiply(BigInteger.valueOf(told.weight(k))));
            }
            v = new BigInteger[] {above, v[1].multiply(BigInteger.valueOf(told.weights()))};
        }
        return least(v[0], v[1])[what].longValueExact();
    }

    int came(int house, int n, int sum) {
        if (!isHouse(house) || !in(n, 0, 5) || !in(sum, 0, 9999)) {
            return -1;
        }
        return rows(house, n, sum);
    }

    private int rows(int house, int n, int sum) {
        if (n == 0) {
            return sum == 0 ? 1 : 0;
        }
        int found = 0;
        for (int k = 0; k < told.kinds.size(); k++) {
            found += rows(house, n - 1, sum - pay(house, k));
        }
        return found;
    }

    long likely(int kind, int n, int what) {
        if (!isKind(kind) || !in(n, 0, 5) || !in(what, 0, 1)) {
            return -1;
        }
        if (told.weights() == 0) {
            return what;
        }
        // By what has come by day: at least once, so far not.
        BigInteger once = BigInteger.ZERO;
        BigInteger not = BigInteger.ONE;
        for (int i = 0; i < n; i++) {
            once = once.multiply(BigInteger.valueOf(told.weights())).add(not.multiply(BigInteger.valueOf(told.weight(kind))));
            not = not.multiply(BigInteger.valueOf(told.weights() - told.weight(kind)));
        }
        return least(once, once.add(not))[what].longValueExact();
    }

    private List<Integer> allRests(int one, int other, int kind) {
        int[][][] has = new int[2][2][2];
        int w = told.worth(kind);
        int e = told.houses.get(one)[1];
        int f = told.houses.get(other)[1];
        has[0][0] = new int[] {e + w / 10 - 2, f + w / 10 - 2};
        has[0][1] = new int[] {e + w / 5 - 3, 1};
        has[1][0] = new int[] {1, f + w / 5 - 3};
        has[1][1] = new int[] {e / 2, f / 2};
        List<Integer> found = new ArrayList<>();
        for (int i = 0; i < 2; i++) {
            for (int j = 0; j < 2; j++) {
                if (!(has[1 - i][j][0] > has[i][j][0]) && !(has[i][1 - j][1] > has[i][j][1])) {
                    found.add(10 * i + j);
                }
            }
        }
        return found;
    }

    int rests(int one, int other, int kind) {
        return isHouse(one) && isHouse(other) && one != other && isKind(kind) ? allRests(one, other, kind).size() : -1;
    }

    int rest(int one, int other, int kind, int k) {
        if (rests(one, other, kind) < 0 || k < 0) {
            return -1;
        }
        List<Integer> all = allRests(one, other, kind);
        return k < all.size() ? all.get(k) : -2;
    }

    int richest() {
        int best = -2;
        for (int h = told.houses.size() - 1; h >= 0; h--) {
            if (!now.sold[h] && (best < 0 || now.purse[h] - now.bill[h] >= now.purse[best] - now.bill[best])) {
                best = h;
            }
        }
        return best;
    }

    int leave(int houses, int kind) {
        if (!isSet(houses) || houses == 0 || !isKind(kind)) {
            return -1;
        }
        for (int some = 1; some < 64; some++) {
            if ((some | houses) == houses) {
                // together less than their parts: most(some) < |some| * most(all) / |all|
                long left = (long) most(some, kind) * Integer.bitCount(houses);
                if (left < (long) Integer.bitCount(some) * most(houses, kind)) {
                    return some;
                }
            }
        }
        return -2;
    }

    private int most(int houses, int kind) {
        int m = 0;
        for (int h = 0; h < told.houses.size(); h++) {
            if ((houses >> h & 1) == 1) {
                m = Math.max(m, pay(h, kind));
            }
        }
        return m;
    }

    int blinds(int n, int what) {
        if (!in(n, 0, 60) || !in(what, 0, 1)) {
            return -1;
        }
        int best = -1;
        int bestSold = 0;
        List<Integer> sets = new ArrayList<>();
        for (int s = 0; s < 1 << told.houses.size(); s++) {
            sets.add(s);
        }
        sets.sort(Comparator.comparingInt(Integer::bitCount));
        for (int s : sets) {
            World w = now.copy();
            boolean may = true;
            for (int h = 0; h < told.houses.size(); h++) {
                if ((s >> h & 1) == 1) {
                    may &= !now.sold[h] && !now.down[h];
                    w.down[h] = true;
                }
            }
            if (may) {
                int sold = after(w, n, false, -1).soldUp();
                if (best < 0 || sold < bestSold) {
                    best = s;
                    bestSold = sold;
                }
            }
        }
        return what == 0 ? best : bestSold;
    }

    int among(int sum) {
        if (!in(sum, 1, 9999)) {
            return -1;
        }
        for (int size = 1; size <= 6; size++) {
            for (int s = 1; s < 1 << told.houses.size(); s++) {
                boolean may = Integer.bitCount(s) == size;
                for (int h = 0; h < told.houses.size(); h++) {
                    may &= (s >> h & 1) == 0 || !now.sold[h];
                }
                if (may && have(s) >= sum) {
                    return s;
                }
            }
        }
        return -2;
    }

    int rescue() {
        World w = now.copy();
        do {
            pass(w, false, -1);
        } while (w.day % told.term() != 0);
        int lack = 0;
        int there = 0;
        for (int h = 0; h < told.houses.size(); h++) {
            if (w.sold[h] && !now.sold[h]) {
                lack += -w.purse[h];
            }
            if (!w.sold[h]) {
                there += w.purse[h];
            }
        }
        return there < lack ? -2 : lack;
    }

    int termIn() {
        int d = 1;
        while ((now.day + d) % told.term() != 0) {
            d++;
        }
        return d;
    }

    int often(int kind, int n) {
        if (!isKind(kind) || !in(n, 0, 200)) {
            return -1;
        }
        return after(now, n, false, -1).times[kind] - now.times[kind];
    }

    int have(int houses) {
        if (!isSet(houses)) {
            return LOW;
        }
        int sum = 0;
        for (int h = 0; h < told.houses.size(); h++) {
            sum += (houses >> h & 1) * (now.purse[h] - now.bill[h]);
        }
        return sum;
    }

    int dearest() {
        int best = -2;
        for (int k = told.kinds.size() - 1; k >= 0; k--) {
            if (best < 0 || told.worth(k) * told.weight(k) >= told.worth(best) * told.weight(best)) {
                best = k;
            }
        }
        return best;
    }

    int note(int day, int house, int bill, boolean orLess) {
        if (!in(day, 0, 99) || !isHouse(house) || !in(bill, 0, 999) || notes.size() == 24) {
            return -1;
        }
        notes.add(new int[] {day, house, bill, orLess ? 1 : 0});
        return notes.size() - 1;
    }

    int strike(int note) {
        if (!in(note, 0, notes.size() - 1) || notes.size() == 24) {
            return -1;
        }
        notes.add(new int[] {note});
        return notes.size() - 1;
    }

    boolean known(int n) {
        if (!in(n, -1, notes.size())) {
            return false;
        }
        known = n;
        return true;
    }

    private int knownBy() {
        return known < 0 ? notes.size() : known;
    }

    private boolean counts(int i) {
        for (int j = i + 1; j < knownBy(); j++) {
            if (notes.get(j).length == 1 && notes.get(j)[0] == i && counts(j)) {
                return false;
            }
        }
        return true;
    }

    int fits(int day) {
        if (!in(day, 0, 99)) {
            return -1;
        }
        int bits = 0;
        for (int k = 0; k < told.kinds.size(); k++) {
            boolean so = true;
            for (int i = 0; i < knownBy(); i++) {
                int[] n = notes.get(i);
                if (n.length == 4 && n[0] == day && counts(i)) {
                    so &= n[3] == 1 ? pay(n[1], k) <= n[2] : pay(n[1], k) > n[2];
                }
            }
            bits |= so ? 1 << k : 0;
        }
        return bits;
    }

    int ask(int day, int what) {
        if (!in(day, 0, 99) || !in(what, 0, 1)) {
            return -1;
        }
        if (told.houses.isEmpty()) {
            return -2;
        }
        int fits = fits(day);
        int best = -1;
        int bestLeft = 0;
        for (int h = 0; h < told.houses.size(); h++) {
            Map<Integer, Integer> answers = new HashMap<>();
            for (int k = 0; k < told.kinds.size(); k++) {
                if ((fits >> k & 1) == 1) {
                    answers.merge(pay(h, k), 1, Integer::sum);
                }
            }
            int left = answers.values().stream().mapToInt(x -> x).max().orElse(0);
            if (best < 0 || left < bestLeft) {
                best = h;
                bestLeft = left;
            }
        }
        return what == 0 ? best : bestLeft;
    }

    int chance(int seed, int n, int house) {
        if (seed < 0 || !in(n, 1, 99) || !isHouse(house)) {
            return -1;
        }
        int found = 0;
        long number = seed;
        for (int i = 0; i < 10; i++) {
            World w = now.copy();
            w.number = number;
            w = after(w, n, true, -1);
            number = w.number;
            found += w.sold[house] ? 1 : 0;
        }
        return found;
    }

    int tried(int what, int i, int n) {
        if (!in(what, 0, 4) || !in(n, 0, 200) || (what == 2 ? !isHouse(i) : i != 0)) {
            return LOW;
        }
        World w = now.copy();
        if (what == 0) {
            Arrays.fill(w.down, true);
        }
        if (what == 2) {
            w.down[i] = true;
        }
        w = after(w, n, false, what);
        return Arrays.stream(w.purse).sum() - Arrays.stream(w.bill).sum();
    }

    int undo() {
        if (undos.isEmpty()) {
            return -1;
        }
        now = undos.remove(undos.size() - 1);
        return undos.size();
    }

    int keep() {
        image = now.copy();
        return now.day;
    }

    int back() {
        if (image == null) {
            return -1;
        }
        now = image.copy();
        undos.clear();
        return now.day;
    }

    int count(int what) {
        switch (what) {
            case 0: return told.kinds.size();
            case 1: return told.houses.size();
            case 2: return told.works.size();
            case 3: return told.knots;
            case 4: return now.day;
            case 5: return now.soldUp();
            case 6: return Arrays.stream(now.purse).sum();
            case 7: return Arrays.stream(now.bill).sum();
            case 8: return Arrays.stream(now.looked).sum();
            case 9: return now.dull;
            case 10: return notes.size();
            case 11: return knownBy();
            case 12: return undos.size();
            default: return -1;
        }
    }
}
