import java.util.NoSuchElementException;

/** Weather that is paid for in arrears: what a TEXT tells, the DAYS that go by, and what can be asked of them. */
public final class SunBills {
    public static final int NONE = -1;

    /** The answer where what is asked for makes sense but isn't there. */
    private static final int NOT_THERE = -2;
    /** In place of a HOUSE: all of them. */
    private static final int ALL = -1;
    /** At most so many KINDS, HOUSES and WORKS. */
    private static final int MOST = 6;
    private static final int TOLD_DAYS = 100;
    private static final int TAPE_BYTES = 700;
    private static final int FED_BYTES = 20;
    private static final int MOST_MONEY = 99999;
    private static final int FARTHEST = 200;
    private static final int LAST_DAY = 9000;
    /** What 1 to 6 all divide: the shares of up to six HOUSES are whole numbers of this part. */
    private static final int PARTS = 60;
    private static final int DRAWS = 10;

    /** What a HOUSE may come to as it goes. */
    private static final int IS_SOLD = 0;
    private static final int IN_CREDIT = 1;
    private static final int IN_DEBT = 2;

    private static final int LOOK_LAW = 0;
    private static final int USE_LAW = 1;
    private static final int PRICE_LAW = 2;
    private static final int LAWS = 3;
    private static final int NAMES = 7;
    private static final int USED_NAME = 4;
    private static final long ERROR = Long.MIN_VALUE;

    private final byte[] tape = new byte[TAPE_BYTES];
    private int taped;
    private Book book = new Book();
    /** A TEXT is read into this one, so that all stays if it has a FAULT. */
    private Book draft = new Book();
    private final Reader reader = new Reader(tape, draft);
    private final Town now = new Town();
    /** What is only thought of goes by here. */
    private final Town trial = new Town();
    private final Town image = new Town();
    private boolean imaged;
    private final Days days = new Days();
    private final Undoing undoing = new Undoing();
    private final Diary diary = new Diary();
    private final Planner planner = new Planner();
    private final Fraction fraction = new Fraction();

    public SunBills() {
        now.start(book);
    }

    // ---- the TEXT

    public int feed(int a, int b, int c, int d, int e) {
        if (taped + FED_BYTES > TAPE_BYTES) {
            return NONE;
        }
        putNumber(a);
        putNumber(b);
        putNumber(c);
        putNumber(d);
        putNumber(e);
        return taped;
    }

    private void putNumber(int number) {
        for (int shift = 24; shift >= 0 && taped < TAPE_BYTES; shift -= 8) {
            tape[taped] = (byte) (number >> shift);
            taped++;
        }
    }

    public int text(int n) {
        if (n < 0 || n > taped) {
            return NOT_THERE;
        }
        taped = 0;
        if (!reader.read(n, draft)) {
            return NONE;
        }
        Book former = book;
        book = draft;
        draft = former;
        now.start(book);
        diary.clear();
        undoing.clear();
        imaged = false;
        return reader.lines;
    }

    public int fault(int what) {
        switch (what) {
            case 0:
                return reader.faultNumber;
            case 1:
                return reader.faultPlace;
            default:
                return NONE;
        }
    }

    public int named(int what, int letters) {
        switch (what) {
            case 0:
                return book.kindNamed(letters);
            case 1:
                return book.houseNamed(letters);
            default:
                return NONE;
        }
    }

    // ---- what is now

    public int house(int house, int what) throws IndexOutOfBoundsException, NoSuchElementException {
        if (!isHouse(house)) {
            throw new IndexOutOfBoundsException("no such house");
        }
        switch (what) {
            case 0:
                return now.purse[house];
            case 1:
                return now.bill[house];
            case 2:
                return now.used[house];
            case 3:
                return book.eager[house];
            case 4:
                return now.looked[house];
            case 5:
                return now.soldUp[house] ? 1 : 0;
            case 6:
                return now.down[house] ? 1 : 0;
            default:
                throw new NoSuchElementException("no such what");
        }
    }

    public int kind(int kind, int what) {
        if (!isKind(kind)) {
            return NONE;
        }
        switch (what) {
            case 0:
                return book.worth[kind];
            case 1:
                return book.weight[kind];
            case 2:
                return now.times[kind];
            default:
                return NONE;
        }
    }

    public int weather(int n) {
        if (!isWithin(n, 0, FARTHEST)) {
            return NONE;
        }
        int kind = kindIn(n);
        return kind == NONE ? NOT_THERE : kind;
    }

    public long law(int what, int house, int kind) {
        if (!isWithin(what, 0, LAWS - 1) || !isHouse(house) || !isKind(kind)) {
            return ERROR;
        }
        days.plain();
        days.name(book, now, house, kind);
        return book.laws.value(what, days.names);
    }

    public int richest() {
        int best = NOT_THERE;
        for (int house = 0; house < book.houses; house++) {
            if (!now.soldUp[house] && (best == NOT_THERE || now.worthOf(house) > now.worthOf(best))) {
                best = house;
            }
        }
        return best;
    }

    public int dearest() {
        int best = NOT_THERE;
        for (int kind = 0; kind < book.kinds; kind++) {
            if (best == NOT_THERE || book.worth[kind] * book.weight[kind] > book.worth[best] * book.weight[best]) {
                best = kind;
            }
        }
        return best;
    }

    public int have(int houses) {
        return areHouses(houses) ? sumOf(houses) : Integer.MIN_VALUE;
    }

    public int among(int sum) {
        if (!isWithin(sum, 1, 9999)) {
            return NONE;
        }
        int best = NOT_THERE;
        for (int houses = 1; houses < 1 << book.houses; houses++) {
            boolean fewer = best == NOT_THERE || Integer.bitCount(houses) < Integer.bitCount(best);
            if (fewer && noneSoldUp(houses) && sumOf(houses) >= sum) {
                best = houses;
            }
        }
        return best;
    }

    private boolean noneSoldUp(int houses) {
        for (int house = 0; house < book.houses; house++) {
            if (isAmong(house, houses) && now.soldUp[house]) {
                return false;
            }
        }
        return true;
    }

    /** PURSES less BILLS of some HOUSES. */
    private int sumOf(int houses) {
        int sum = 0;
        for (int house = 0; house < book.houses; house++) {
            if (isAmong(house, houses)) {
                sum += now.worthOf(house);
            }
        }
        return sum;
    }

    public int termIn() {
        return book.daysToTerm(now.day);
    }

    public int count(int what) {
        switch (what) {
            case 0:
                return book.kinds;
            case 1:
                return book.houses;
            case 2:
                return book.works;
            case 3:
                return book.laws.knots;
            case 4:
                return now.day;
            case 5:
                return now.howManySoldUp();
            case 6:
                return sumOfRow(now.purse);
            case 7:
                return sumOfRow(now.bill);
            case 8:
                return sumOfRow(now.looked);
            case 9:
                return now.dull;
            case 10:
                return diary.size;
            case 11:
                return diary.knownCount();
            case 12:
                return undoing.size;
            default:
                return NONE;
        }
    }

    private static int sumOfRow(int[] row) {
        int sum = 0;
        for (int each : row) {
            sum += each;
        }
        return sum;
    }

    // ---- what is done by call

    public int blind(int house) {
        if (!isHouse(house)) {
            return NONE;
        }
        undoing.drew(house);
        now.down[house] = !now.down[house];
        return now.down[house] ? 1 : 0;
    }

    public boolean send(int kind) {
        if (!isKind(kind)) {
            return false;
        }
        undoing.sent(now.sentKind);
        now.sentKind = kind;
        return true;
    }

    public int lend(int from, int to, int much) {
        if (!isHouse(from) || !isHouse(to) || from == to || !isWithin(much, 1, 999)) {
            return NONE;
        }
        if (now.soldUp[from] || now.soldUp[to] || now.purse[from] < much) {
            return NOT_THERE;
        }
        undoing.lent(now, from, to);
        now.purse[from] -= much;
        now.purse[to] = Math.min(MOST_MONEY, now.purse[to] + much);
        return now.purse[to];
    }

    public int go(int n) {
        if (!isWithin(n, 0, FARTHEST) || now.day + n > LAST_DAY) {
            return NONE;
        }
        days.plain();
        days.byNumbers = true;
        for (int i = 0; i < n; i++) {
            days.pass(book, now, ALL);
        }
        if (n > 0) {
            undoing.clear();
        }
        return now.day;
    }

    public int undo() {
        return undoing.undoLatest(now) ? undoing.size : NONE;
    }

    public int keep() {
        image.takeFrom(now);
        imaged = true;
        return now.day;
    }

    public int back() {
        if (!imaged) {
            return NONE;
        }
        now.takeFrom(image);
        undoing.clear();
        return now.day;
    }

    // ---- what comes, as it goes

    /** The KIND of a DAY behind this one as it goes, or NONE. */
    private int kindIn(int n) {
        return n == 0 && now.sentKind != NONE ? now.sentKind : book.kindAsItGoes(now.day + n);
    }

    private void rehearse() {
        days.plain();
        trial.takeFrom(now);
    }

    private void passTrial(int n, int only) {
        for (int i = 0; i < n; i++) {
            days.pass(book, trial, only);
        }
    }

    public int ahead(int n, int what, int house) {
        if (!isWithin(n, 0, FARTHEST) || !isWithin(what, 0, 4) || (what < 3 && !isHouse(house))) {
            return Integer.MIN_VALUE;
        }
        rehearse();
        passTrial(n, what < 3 ? house : ALL);
        switch (what) {
            case 0:
                return trial.purse[house];
            case 1:
                return trial.bill[house];
            case 2:
                return trial.used[house];
            case 3:
                return trial.howManySoldUp();
            default:
                return sumOfRow(trial.looked) - sumOfRow(now.looked);
        }
    }

    public int sold(int house) {
        return daysUntil(IS_SOLD, house);
    }

    public int credit(int house) {
        return daysUntil(IN_CREDIT, house);
    }

    public int owes(int house) {
        return daysUntil(IN_DEBT, house);
    }

    private int daysUntil(int sign, int house) {
        if (!isHouse(house)) {
            return NONE;
        }
        rehearse();
        for (int n = 0; n < FARTHEST; n++) {
            if (trial.shows(sign, house)) {
                return n;
            }
            days.pass(book, trial, house);
        }
        return NOT_THERE;
    }

    public int often(int kind, int n) {
        if (!isKind(kind) || !isWithin(n, 0, FARTHEST)) {
            return NONE;
        }
        int found = 0;
        for (int i = 0; i < n; i++) {
            if (kindIn(i) == kind) {
                found++;
            }
        }
        return found;
    }

    public int plan(int n, int what) {
        if (!isWithin(n, 0, Planner.DAYS) || !isWithin(what, 0, MOST + 1)) {
            return NONE;
        }
        for (int i = 0; i < n; i++) {
            planner.kinds[i] = kindIn(i);
        }
        planner.lay(book, n);
        if (what == MOST) {
            return planner.laid;
        }
        if (what == MOST + 1) {
            return planner.sum;
        }
        return what < book.works ? planner.chosen[what] : NOT_THERE;
    }

    public int blinds(int n, int what) {
        if (!isWithin(n, 0, 60) || !isWithin(what, 0, 1)) {
            return NONE;
        }
        int bits = 0;
        int fallen = 0;
        for (int house = 0; house < book.houses; house++) {
            // No HOUSE's fate hangs on another's, so each blind can be judged for itself.
            if (isSoldUpIn(n, house, now.down[house])) {
                if (isSoldUpIn(n, house, true)) {
                    fallen++;
                } else {
                    bits |= 1 << house;
                }
            }
        }
        return what == 0 ? bits : fallen;
    }

    private boolean isSoldUpIn(int n, int house, boolean down) {
        rehearse();
        trial.down[house] = down;
        passTrial(n, house);
        return trial.soldUp[house];
    }

    public int rescue() {
        rehearse();
        passTrial(termIn(), ALL);
        int wanting = 0;
        int there = 0;
        for (int house = 0; house < book.houses; house++) {
            if (!trial.soldUp[house]) {
                there += trial.purse[house];
            } else if (!now.soldUp[house]) {
                wanting -= trial.purse[house];
            }
        }
        return there < wanting ? NOT_THERE : wanting;
    }

    public int chance(int seed, int n, int house) {
        if (seed < 0 || !isWithin(n, 1, 99) || !isHouse(house)) {
            return NONE;
        }
        int found = 0;
        int number = seed;
        for (int i = 0; i < DRAWS; i++) {
            rehearse();
            days.byNumbers = true;
            trial.number = number;
            passTrial(n, house);
            number = trial.number;
            if (trial.soldUp[house]) {
                found++;
            }
        }
        return found;
    }

    public int tried(int what, int i, int n) {
        boolean fitting = what == 2 ? isHouse(i) : i == 0;
        if (!isWithin(what, 0, 4) || !fitting || !isWithin(n, 0, FARTHEST)) {
            return Integer.MIN_VALUE;
        }
        rehearse();
        for (int house = 0; house < book.houses; house++) {
            if (what == 0 || (what == 2 && house == i)) {
                trial.down[house] = true;
            }
        }
        days.worthless = what == 1;
        days.eagerest = what == 3;
        days.termless = what == 4;
        passTrial(n, ALL);
        return sumOfRow(trial.purse) - sumOfRow(trial.bill);
    }

    // ---- one day shared, waiting, odds

    public int share(int houses, int house, int kind, int what) {
        if (!areHouses(houses) || !isHouse(house) || !isKind(kind) || !isWithin(what, 0, 1)) {
            return NONE;
        }
        fraction.put(isAmong(house, houses) ? partsOf(houses, house, kind) : 0, PARTS);
        return (int) fraction.told(what);
    }

    /** Over all orders each unit of the most falls alike on all who would pay up to it. */
    private int partsOf(int houses, int house, int kind) {
        int parts = 0;
        int own = book.alone(house, kind);
        for (int unit = 1; unit <= own; unit++) {
            int payers = 0;
            for (int other = 0; other < book.houses; other++) {
                if (isAmong(other, houses) && book.alone(other, kind) >= unit) {
                    payers++;
                }
            }
            if (payers > 0) {
                parts += PARTS / payers;
            }
        }
        return parts;
    }

    public int leave(int houses, int kind) {
        if (houses < 1 || !areHouses(houses) || !isKind(kind)) {
            return NONE;
        }
        int all = Integer.bitCount(houses);
        int together = mostOf(houses, kind);
        for (int some = 1; some <= houses; some++) {
            boolean within = (some & houses) == some;
            if (within && mostOf(some, kind) * all < Integer.bitCount(some) * together) {
                return some;
            }
        }
        return NOT_THERE;
    }

    private int mostOf(int houses, int kind) {
        int most = 0;
        for (int house = 0; house < book.houses; house++) {
            if (isAmong(house, houses)) {
                most = Math.max(most, book.alone(house, kind));
            }
        }
        return most;
    }

    public long waits(int n, int what) {
        if (!isWithin(n, 0, 6) || !isWithin(what, 0, 1)) {
            return NONE;
        }
        fraction.put(0, 1);
        for (int i = 0; i < n && book.weights > 0; i++) {
            fraction.put(sumOfBetter(fraction), fraction.below * book.weights);
        }
        return fraction.told(what);
    }

    /** By WEIGHTS, WORTH or what waiting is worth, whichever is more, over the number below of the latter. */
    private long sumOfBetter(Fraction later) {
        long sum = 0;
        for (int kind = 0; kind < book.kinds; kind++) {
            sum += book.weight[kind] * Math.max(book.worth[kind] * later.below, later.above);
        }
        return sum;
    }

    public int came(int house, int n, int sum) {
        if (!isHouse(house) || !isWithin(n, 0, 5) || !isWithin(sum, 0, 9999)) {
            return NONE;
        }
        int rows = (int) power(book.kinds, n);
        int found = 0;
        for (int row = 0; row < rows; row++) {
            if (sumOfKinds(row, n, house) == sum) {
                found++;
            }
        }
        return found;
    }

    /** A row of KINDS is the number whose digits they are. */
    private int sumOfKinds(int row, int n, int house) {
        int sum = 0;
        int rest = row;
        for (int i = 0; i < n && book.kinds > 0; i++) {
            sum += book.alone(house, rest % book.kinds);
            rest /= book.kinds;
        }
        return sum;
    }

    public long likely(int kind, int n, int what) {
        if (!isKind(kind) || !isWithin(n, 0, 5) || !isWithin(what, 0, 1)) {
            return NONE;
        }
        if (book.weights == 0) {
            fraction.put(0, 1);
        } else {
            long all = power(book.weights, n);
            fraction.put(all - power(book.weights - book.weight[kind], n), all);
        }
        return fraction.told(what);
    }

    private static long power(int base, int exponent) {
        long power = 1;
        for (int i = 0; i < exponent; i++) {
            power *= base;
        }
        return power;
    }

    // ---- two who look or draw the blind

    public int rests(int one, int other, int kind) {
        if (!isView(one, other, kind)) {
            return NONE;
        }
        int found = 0;
        for (int both = 0; both < 4; both++) {
            if (isRest(one, other, kind, both)) {
                found++;
            }
        }
        return found;
    }

    public int rest(int one, int other, int kind, int k) {
        if (!isView(one, other, kind) || k < 0) {
            return NONE;
        }
        int found = 0;
        for (int both = 0; both < 4; both++) {
            if (isRest(one, other, kind, both)) {
                if (found == k) {
                    return 10 * (both >> 1) + (both & 1);
                }
                found++;
            }
        }
        return NOT_THERE;
    }

    private boolean isView(int one, int other, int kind) {
        return isHouse(one) && isHouse(other) && one != other && isKind(kind);
    }

    /** Both choices are two bits, the first one's the higher. */
    private boolean isRest(int one, int other, int kind, int both) {
        int first = both >> 1;
        int second = both & 1;
        return gain(one, kind, first, second) >= gain(one, kind, 1 - first, second)
            && gain(other, kind, second, first) >= gain(other, kind, 1 - second, first);
    }

    private int gain(int house, int kind, int own, int others) {
        int eager = book.eager[house];
        int worth = book.worth[kind];
        if (own == 0) {
            return others == 0 ? eager + worth / 10 - 2 : eager + worth / 5 - 3;
        }
        return others == 0 ? 1 : eager / 2;
    }

    // ---- notes

    public int note(int day, int house, int bill, boolean orLess) {
        if (!isToldDay(day) || !isHouse(house) || !isWithin(bill, 0, 999)) {
            return NONE;
        }
        return diary.addNote(day, house, bill, orLess);
    }

    public int strike(int note) {
        return diary.addStrike(note);
    }

    public boolean known(int n) {
        if (!isWithin(n, NONE, diary.size)) {
            return false;
        }
        diary.knownBy = n;
        return true;
    }

    public int fits(int day) {
        return isToldDay(day) ? diary.fitting(book, day) : NONE;
    }

    public int ask(int day, int what) {
        if (!isToldDay(day) || !isWithin(what, 0, 1)) {
            return NONE;
        }
        if (book.houses == 0) {
            return NOT_THERE;
        }
        int kinds = diary.fitting(book, day);
        int best = 0;
        for (int house = 1; house < book.houses; house++) {
            if (leftAtWorst(kinds, house) < leftAtWorst(kinds, best)) {
                best = house;
            }
        }
        return what == 0 ? best : leftAtWorst(kinds, best);
    }

    /** How many of some KINDS are left by the answer of a HOUSE that leaves most. */
    private int leftAtWorst(int kinds, int house) {
        int worst = 0;
        for (int kind = 0; kind < book.kinds; kind++) {
            int left = 0;
            for (int other = 0; other < book.kinds; other++) {
                if (isAmong(other, kinds) && book.alone(house, other) == book.alone(house, kind)) {
                    left++;
                }
            }
            if (isAmong(kind, kinds)) {
                worst = Math.max(worst, left);
            }
        }
        return worst;
    }

    // ---- what numbers may stand for

    private static boolean isWithin(int value, int least, int most) {
        return value >= least && value <= most;
    }

    private static boolean isToldDay(int day) {
        return isWithin(day, 0, TOLD_DAYS - 1);
    }

    private static boolean isAmong(int number, int bits) {
        return ((bits >> number) & 1) == 1;
    }

    private boolean isKind(int kind) {
        return isWithin(kind, 0, book.kinds - 1);
    }

    private boolean isHouse(int house) {
        return isWithin(house, 0, book.houses - 1);
    }

    private boolean areHouses(int houses) {
        return isWithin(houses, 0, (1 << book.houses) - 1);
    }

    // ---- what a TEXT tells

    private static final class Book {
        static final int DEFAULT_TERM = 30;

        final int[] kindLetters = new int[MOST];
        final int[] worth = new int[MOST];
        final int[] weight = new int[MOST];
        final int[] houseLetters = new int[MOST];
        final int[] purse = new int[MOST];
        final int[] eager = new int[MOST];
        final int[] earns = new int[MOST];
        final int[] workHouse = new int[MOST];
        final int[] workKind = new int[MOST];
        final int[] told = new int[TOLD_DAYS];
        final Laws laws = new Laws();
        int kinds;
        int houses;
        int works;
        int toldDays;
        /** NONE until it is told, as the seed. */
        int term;
        int seed;
        int weights;
        int weighted;
        int heaviest;

        Book() {
            clear();
            settle();
        }

        void clear() {
            kinds = 0;
            houses = 0;
            works = 0;
            toldDays = 0;
            term = NONE;
            seed = NONE;
            for (int day = 0; day < TOLD_DAYS; day++) {
                told[day] = NONE;
            }
            laws.clear();
        }

        /** What was not told, and what every DAY asks for again. */
        void settle() {
            if (term == NONE) {
                term = DEFAULT_TERM;
            }
            if (seed == NONE) {
                seed = 0;
            }
            weights = 0;
            weighted = 0;
            heaviest = NONE;
            for (int kind = 0; kind < kinds; kind++) {
                if (weight[kind] > 0) {
                    weights += weight[kind];
                    weighted++;
                    if (heaviest == NONE || weight[kind] > weight[heaviest]) {
                        heaviest = kind;
                    }
                }
            }
        }

        int kindNamed(int letters) {
            return placeOf(letters, kindLetters, kinds);
        }

        int houseNamed(int letters) {
            return placeOf(letters, houseLetters, houses);
        }

        private static int placeOf(int letters, int[] row, int size) {
            for (int i = 0; i < size && i < row.length; i++) {
                if (row[i] == letters) {
                    return i;
                }
            }
            return NONE;
        }

        /** The KIND told of a DAY, or NONE. */
        int kindTold(int day) {
            return isToldDay(day) ? told[day] : NONE;
        }

        int kindAsItGoes(int day) {
            int kind = kindTold(day);
            return kind == NONE ? heaviest : kind;
        }

        /** The first KIND up to which the WEIGHTS come to more than what a number leaves. */
        int kindByNumber(int number) {
            if (weights <= 0) {
                return NONE;
            }
            int left = number % weights;
            for (int kind = 0; kind < kinds; kind++) {
                left -= weight[kind];
                if (left < 0) {
                    return kind;
                }
            }
            return NONE;
        }

        /** What a HOUSE would pay alone for a DAY of a KIND. */
        int alone(int house, int kind) {
            return worth[kind] * eager[house];
        }

        int daysToTerm(int day) {
            return term > 0 ? term - day % term : 1;
        }
    }

    // ---- the laws

    /** The E of all laws, each a row of KNOTS with operands ahead of their signs. */
    private static final class Laws {
        static final int KNOTS = 64;
        /** Below this a code is a number; from this on NAMES; from SIGNS on the signs by their TOKENS. */
        static final int NAMED = 10000;
        static final int SIGNS = 20000;
        static final long LIMIT = 1000000000000L;

        final int[] codes = new int[KNOTS];
        final int[] from = new int[LAWS];
        final int[] size = new int[LAWS];
        final long[] heap = new long[KNOTS];
        /** Counted when read; its code may be put later, behind its operands. */
        int knots;
        int put;

        void clear() {
            knots = 0;
            put = 0;
            for (int law = 0; law < LAWS; law++) {
                from[law] = 0;
                size[law] = 0;
            }
        }

        boolean has(int law) {
            return size[law] > 0;
        }

        void begin(int law) {
            from[law] = put;
        }

        void end(int law) {
            size[law] = put - from[law];
        }

        void add(int code) {
            if (put < KNOTS) {
                codes[put] = code;
                put++;
            }
        }

        /** The value of a law's E; ERROR, too, if there is no such law. */
        long value(int law, long[] names) {
            int top = 0;
            int end = Math.min(from[law] + size[law], KNOTS);
            for (int i = from[law]; i < end; i++) {
                int code = codes[i];
                if (code < SIGNS) {
                    if (top >= KNOTS) {
                        return ERROR;
                    }
                    heap[top] = operand(code, names);
                    top++;
                } else if (code == SIGNS + Tokens.NOT) {
                    if (top < 1) {
                        return ERROR;
                    }
                    heap[top - 1] = truth(heap[top - 1] == 0);
                } else {
                    if (top < 2) {
                        return ERROR;
                    }
                    top--;
                    heap[top - 1] = joined(code - SIGNS, heap[top - 1], heap[top]);
                    if (heap[top - 1] == ERROR) {
                        return ERROR;
                    }
                }
            }
            return top == 1 ? heap[0] : ERROR;
        }

        private static long operand(int code, long[] names) {
            int name = code - NAMED;
            return name >= 0 && name < names.length ? names[name] : code;
        }

        private static long truth(boolean so) {
            return so ? 1 : 0;
        }

        private static long joined(int sign, long left, long right) {
            switch (sign) {
                case Tokens.OR:
                    return truth(left != 0 || right != 0);
                case Tokens.AND:
                    return truth(left != 0 && right != 0);
                case Tokens.LESS:
                    return truth(left < right);
                case Tokens.AT_MOST:
                    return truth(left <= right);
                case Tokens.SAME:
                    return truth(left == right);
                case Tokens.OTHER:
                    return truth(left != right);
                case Tokens.AT_LEAST:
                    return truth(left >= right);
                case Tokens.MORE:
                    return truth(left > right);
                case Tokens.PLUS:
                    return limited(left + right);
                case Tokens.MINUS:
                    return limited(left - right);
                case Tokens.TIMES:
                    return product(left, right);
                default:
                    return right == 0 ? ERROR : left / right;
            }
        }

        private static long limited(long value) {
            return value > LIMIT || value < -LIMIT ? ERROR : value;
        }

        /** Looked at ahead, since the product itself may be more than a long holds. */
        private static long product(long left, long right) {
            long size = left < 0 ? -left : left;
            if (size == 0) {
                return 0;
            }
            long most = LIMIT / size;
            return right > most || right < -most ? ERROR : left * right;
        }
    }

    // ---- the TOKENS of a TEXT

    private static final class Tokens {
        /** The words of the language, six signs each, numbered as TOKENS are. */
        static final String WORDS = "kind  house day   work  term  seed  law   look  use   price or    and   not   worth eager purse bill  used  weightdate  ";
        static final int WORD_COUNT = 20;
        static final int LONGEST = 6;

        static final int KIND = 0;
        static final int HOUSE = 1;
        static final int DAY = 2;
        static final int WORK = 3;
        static final int TERM = 4;
        static final int SEED = 5;
        static final int LAW = 6;
        static final int LOOK = 7;
        static final int PRICE = 9;
        static final int OR = 10;
        static final int AND = 11;
        static final int NOT = 12;
        static final int WORTH = 13;
        static final int DATE = 19;
        static final int SEMICOLON = 20;
        static final int OPEN = 21;
        static final int CLOSE = 22;
        static final int LESS = 23;
        static final int AT_MOST = 24;
        static final int SAME = 25;
        static final int OTHER = 26;
        static final int AT_LEAST = 27;
        static final int MORE = 28;
        static final int PLUS = 29;
        static final int MINUS = 30;
        static final int TIMES = 31;
        static final int BY = 32;
        static final int NUMBER = 33;
        static final int OWN_WORD = 34;
        static final int END = 35;
        static final int NO_TOKEN = 36;

        /** Above all that a number may be, so that more digits need not be told apart. */
        static final int HUGE = 1000000;

        final byte[] bytes;
        final int[] words = new int[WORD_COUNT];
        int length;
        int at;
        /** The latest TOKEN, where it begins, and its number or letters. */
        int token;
        int place;
        int value;

        Tokens(byte[] bytes) {
            this.bytes = bytes;
            for (int i = 0; i < WORDS.length() && i < WORD_COUNT * LONGEST; i++) {
                char sign = WORDS.charAt(i);
                if (sign != ' ') {
                    words[i / LONGEST] |= letter(sign, i % LONGEST);
                }
            }
        }

        /** A letter of a word, five bits, the first one highest. */
        private static int letter(int sign, int i) {
            return (sign - 'a' + 1) << (5 * (LONGEST - 1 - i));
        }

        void begin(int n) {
            length = n;
            at = 0;
        }

        boolean isName() {
            return token >= WORTH && token <= DATE;
        }

        private int signAt(int i) {
            return i >= 0 && i < length && i < bytes.length ? bytes[i] & 255 : 0;
        }

        private static boolean isLetter(int sign) {
            return sign >= 'a' && sign <= 'z';
        }

        private static boolean isDigit(int sign) {
            return sign >= '0' && sign <= '9';
        }

        void step() {
            while (at < length && (signAt(at) == ' ' || signAt(at) == 10)) {
                at++;
            }
            place = at;
            int sign = signAt(at);
            if (at >= length) {
                token = END;
            } else if (isLetter(sign)) {
                stepWord();
            } else if (isDigit(sign)) {
                stepNumber();
            } else {
                at++;
                token = signToken(sign, signAt(at));
                if (token == AT_MOST || token == AT_LEAST || token == OTHER) {
                    at++;
                }
            }
        }

        private void stepWord() {
            int letters = 0;
            int size = 0;
            while (at < length && isLetter(signAt(at))) {
                if (size < LONGEST) {
                    letters |= letter(signAt(at), size);
                }
                size++;
                at++;
            }
            value = letters;
            token = size > LONGEST ? NO_TOKEN : OWN_WORD;
            for (int word = 0; word < WORD_COUNT && token == OWN_WORD; word++) {
                if (words[word] == letters) {
                    token = word;
                }
            }
        }

        private void stepNumber() {
            value = 0;
            while (at < length && isDigit(signAt(at))) {
                value = Math.min(HUGE, value * 10 + signAt(at) - '0');
                at++;
            }
            token = NUMBER;
        }

        private static int signToken(int sign, int behind) {
            switch (sign) {
                case ';':
                    return SEMICOLON;
                case '(':
                    return OPEN;
                case ')':
                    return CLOSE;
                case '<':
                    return behind == '=' ? AT_MOST : behind == '>' ? OTHER : LESS;
                case '=':
                    return SAME;
                case '>':
                    return behind == '=' ? AT_LEAST : MORE;
                case '+':
                    return PLUS;
                case '-':
                    return MINUS;
                case '*':
                    return TIMES;
                case '/':
                    return BY;
                default:
                    return NO_TOKEN;
            }
        }
    }

    // ---- reading a TEXT

    private static final class Reader {
        static final int CANT_STAND = 1;
        static final int TOO_MUCH = 2;
        static final int TOLD_ALREADY = 3;
        static final int NOT_TOLD = 4;

        static final int COMPARING = 4;
        static final int MOST_OPEN = 8;
        static final int MOST_DAYS = 20;

        final Tokens tokens;
        /** Signs whose right side isn't read yet, and each '(' that is open. */
        final int[] waiting = new int[Laws.KNOTS + MOST_OPEN];
        int waitings;
        int open;
        int lines;
        int faultNumber;
        int faultPlace = NONE;
        Book into;

        Reader(byte[] bytes, Book into) {
            this.tokens = new Tokens(bytes);
            this.into = into;
        }

        boolean read(int n, Book draft) {
            into = draft;
            into.clear();
            tokens.begin(n);
            lines = 0;
            faultNumber = 0;
            faultPlace = NONE;
            tokens.step();
            while (tokens.token != Tokens.END && lines < TAPE_BYTES) {
                if (!readLine()) {
                    return false;
                }
                lines++;
                tokens.step();
            }
            into.settle();
            return true;
        }

        private boolean readLine() {
            switch (tokens.token) {
                case Tokens.KIND:
                    return readKind() && isEnd();
                case Tokens.HOUSE:
                    return readHouse() && isEnd();
                case Tokens.DAY:
                    return readDay() && isEnd();
                case Tokens.WORK:
                    return readWork() && isEnd();
                case Tokens.TERM:
                    return readTerm() && isEnd();
                case Tokens.SEED:
                    return readSeed() && isEnd();
                case Tokens.LAW:
                    return readLaw();
                default:
                    return fails(CANT_STAND);
            }
        }

        private boolean fails(int number) {
            faultNumber = number;
            faultPlace = tokens.place;
            return false;
        }

        private boolean isEnd() {
            tokens.step();
            return tokens.token == Tokens.SEMICOLON || fails(CANT_STAND);
        }

        private boolean isWord() {
            tokens.step();
            return tokens.token == Tokens.OWN_WORD || fails(CANT_STAND);
        }

        private boolean isNumber(int least, int most) {
            tokens.step();
            if (tokens.token != Tokens.NUMBER) {
                return fails(CANT_STAND);
            }
            return isWithin(tokens.value, least, most) || fails(TOO_MUCH);
        }

        private boolean readKind() {
            int kind = into.kinds;
            if (kind >= MOST) {
                return fails(TOO_MUCH);
            }
            if (!isWord()) {
                return false;
            }
            if (into.kindNamed(tokens.value) != NONE) {
                return fails(TOLD_ALREADY);
            }
            into.kindLetters[kind] = tokens.value;
            if (!isNumber(0, 99)) {
                return false;
            }
            into.worth[kind] = tokens.value;
            if (!isNumber(0, 99)) {
                return false;
            }
            into.weight[kind] = tokens.value;
            into.kinds++;
            return true;
        }

        private boolean readHouse() {
            int house = into.houses;
            if (house >= MOST) {
                return fails(TOO_MUCH);
            }
            if (!isWord()) {
                return false;
            }
            if (into.houseNamed(tokens.value) != NONE) {
                return fails(TOLD_ALREADY);
            }
            into.houseLetters[house] = tokens.value;
            if (!isNumber(0, 999)) {
                return false;
            }
            into.purse[house] = tokens.value;
            if (!isNumber(0, 9)) {
                return false;
            }
            into.eager[house] = tokens.value;
            if (!isNumber(0, 99)) {
                return false;
            }
            into.earns[house] = tokens.value;
            into.houses++;
            return true;
        }

        private boolean readDay() {
            if (into.toldDays >= MOST_DAYS) {
                return fails(TOO_MUCH);
            }
            if (!isNumber(0, TOLD_DAYS - 1)) {
                return false;
            }
            int day = tokens.value;
            if (into.kindTold(day) != NONE) {
                return fails(TOLD_ALREADY);
            }
            if (!isWord()) {
                return false;
            }
            int kind = into.kindNamed(tokens.value);
            if (kind == NONE) {
                return fails(NOT_TOLD);
            }
            into.told[day] = kind;
            into.toldDays++;
            return true;
        }

        private boolean readWork() {
            int work = into.works;
            if (work >= MOST) {
                return fails(TOO_MUCH);
            }
            if (!isWord()) {
                return false;
            }
            into.workHouse[work] = into.houseNamed(tokens.value);
            if (into.workHouse[work] == NONE) {
                return fails(NOT_TOLD);
            }
            if (!isWord()) {
                return false;
            }
            into.workKind[work] = into.kindNamed(tokens.value);
            if (into.workKind[work] == NONE) {
                return fails(NOT_TOLD);
            }
            into.works++;
            return true;
        }

        private boolean readTerm() {
            if (into.term != NONE) {
                return fails(TOLD_ALREADY);
            }
            if (!isNumber(1, 99)) {
                return false;
            }
            into.term = tokens.value;
            return true;
        }

        private boolean readSeed() {
            if (into.seed != NONE) {
                return fails(TOLD_ALREADY);
            }
            if (!isNumber(0, 99999)) {
                return false;
            }
            into.seed = tokens.value;
            return true;
        }

        private boolean readLaw() {
            tokens.step();
            if (tokens.token < Tokens.LOOK || tokens.token > Tokens.PRICE) {
                return fails(CANT_STAND);
            }
            int law = tokens.token - Tokens.LOOK;
            if (into.laws.has(law)) {
                return fails(TOLD_ALREADY);
            }
            into.laws.begin(law);
            if (!readFormula()) {
                return false;
            }
            into.laws.end(law);
            return true;
        }

        /** E and the ';' behind it: by turns what stands for a value and what stands between two. */
        private boolean readFormula() {
            waitings = 0;
            open = 0;
            boolean valued = false;
            for (int i = 0; i < TAPE_BYTES; i++) {
                tokens.step();
                if (valued && tokens.token == Tokens.SEMICOLON && open == 0) {
                    release(1);
                    return true;
                }
                boolean fitting = valued ? readBehindValue() : readValue();
                if (!fitting) {
                    return false;
                }
                valued = tokens.token == Tokens.NUMBER || tokens.token == Tokens.CLOSE || tokens.isName();
            }
            return fails(CANT_STAND);
        }

        /** A number, a NAME, a '(' or a not. */
        private boolean readValue() {
            if (tokens.token == Tokens.NUMBER) {
                return isKnot() && (tokens.value <= 9999 || fails(TOO_MUCH)) && puts(tokens.value);
            }
            if (tokens.isName()) {
                return isKnot() && puts(Laws.NAMED + tokens.token - Tokens.WORTH);
            }
            if (tokens.token == Tokens.OPEN) {
                if (open >= MOST_OPEN) {
                    return fails(TOO_MUCH);
                }
                open++;
                return holds(Tokens.OPEN);
            }
            if (tokens.token == Tokens.NOT && rankOfLatest() < COMPARING) {
                return isKnot() && holds(Tokens.NOT);
            }
            return fails(CANT_STAND);
        }

        /** A sign between two values, or a ')'. */
        private boolean readBehindValue() {
            if (tokens.token == Tokens.CLOSE && open > 0) {
                release(1);
                waitings--;
                open--;
                return true;
            }
            int rank = rankOf(tokens.token);
            if (rank == 0 || tokens.token == Tokens.NOT) {
                return fails(CANT_STAND);
            }
            release(rank == COMPARING ? COMPARING + 1 : rank);
            if (rank == COMPARING && rankOfLatest() == COMPARING) {
                return fails(CANT_STAND);
            }
            return isKnot() && holds(tokens.token);
        }

        private boolean isKnot() {
            if (into.laws.knots >= Laws.KNOTS) {
                return fails(TOO_MUCH);
            }
            into.laws.knots++;
            return true;
        }

        private boolean puts(int code) {
            into.laws.add(code);
            return true;
        }

        private boolean holds(int sign) {
            if (waitings < waiting.length) {
                waiting[waitings] = sign;
                waitings++;
            }
            return true;
        }

        private int rankOfLatest() {
            return waitings > 0 ? rankOf(waiting[waitings - 1]) : 0;
        }

        /** The waiting signs that bind as much as this, or more, have their right side now. */
        private void release(int rank) {
            while (waitings > 0 && rankOf(waiting[waitings - 1]) >= rank) {
                waitings--;
                into.laws.add(Laws.SIGNS + waiting[waitings]);
            }
        }

        /** How much a sign binds; 0 of what is none, a '(' too. */
        private static int rankOf(int sign) {
            switch (sign) {
                case Tokens.OR:
                    return 1;
                case Tokens.AND:
                    return 2;
                case Tokens.NOT:
                    return 3;
                case Tokens.PLUS:
                case Tokens.MINUS:
                    return 5;
                case Tokens.TIMES:
                case Tokens.BY:
                    return 6;
                default:
                    return sign >= Tokens.LESS && sign <= Tokens.MORE ? COMPARING : 0;
            }
        }
    }

    // ---- how it stands on a DAY

    private static final class Town {
        final int[] purse = new int[MOST];
        final int[] bill = new int[MOST];
        final int[] used = new int[MOST];
        final int[] looked = new int[MOST];
        final boolean[] soldUp = new boolean[MOST];
        final boolean[] down = new boolean[MOST];
        /** On how many DAYS each KIND was the WEATHER. */
        final int[] times = new int[MOST];
        int dull;
        int day;
        int sentKind = NONE;
        /** What the next number comes from. */
        int number;

        void start(Book book) {
            for (int i = 0; i < MOST; i++) {
                purse[i] = i < book.houses ? book.purse[i] : 0;
                bill[i] = 0;
                used[i] = 0;
                looked[i] = 0;
                soldUp[i] = false;
                down[i] = false;
                times[i] = 0;
            }
            dull = 0;
            day = 0;
            sentKind = NONE;
            number = book.seed;
        }

        void takeFrom(Town other) {
            for (int i = 0; i < MOST; i++) {
                purse[i] = other.purse[i];
                bill[i] = other.bill[i];
                used[i] = other.used[i];
                looked[i] = other.looked[i];
                soldUp[i] = other.soldUp[i];
                down[i] = other.down[i];
                times[i] = other.times[i];
            }
            dull = other.dull;
            day = other.day;
            sentKind = other.sentKind;
            number = other.number;
        }

        int worthOf(int house) {
            return purse[house] - bill[house];
        }

        int howManySoldUp() {
            int found = 0;
            for (boolean each : soldUp) {
                if (each) {
                    found++;
                }
            }
            return found;
        }

        boolean shows(int sign, int house) {
            switch (sign) {
                case IS_SOLD:
                    return soldUp[house];
                case IN_CREDIT:
                    return bill[house] < 0;
                default:
                    return worthOf(house) < 0;
            }
        }

        int nextNumber() {
            number = (number * 1103515245 + 12345) & Integer.MAX_VALUE;
            return number / 65536;
        }
    }

    // ---- how a DAY goes by

    private static final class Days {
        final long[] names = new long[NAMES];
        boolean byNumbers;
        boolean worthless;
        boolean eagerest;
        boolean termless;

        /** As it goes, and as it is told. */
        void plain() {
            byNumbers = false;
            worthless = false;
            eagerest = false;
            termless = false;
        }

        void pass(Book book, Town town, int only) {
            int kind = kindOf(book, town);
            if (kind == NONE) {
                town.dull++;
            } else {
                town.times[kind]++;
                for (int house = 0; house < book.houses; house++) {
                    if (isMeant(house, only) && !town.soldUp[house] && !town.down[house]) {
                        look(book, town, house, kind);
                    }
                }
            }
            if (!termless && book.daysToTerm(town.day) == 1) {
                for (int house = 0; house < book.houses; house++) {
                    if (isMeant(house, only) && !town.soldUp[house]) {
                        pay(book, town, house);
                    }
                }
            }
            town.day++;
            town.sentKind = NONE;
        }

        private static boolean isMeant(int house, int only) {
            return only == ALL || only == house;
        }

        private int kindOf(Book book, Town town) {
            if (town.sentKind != NONE) {
                return town.sentKind;
            }
            int told = book.kindTold(town.day);
            if (told != NONE) {
                return told;
            }
            if (!byNumbers || book.weighted < 2) {
                return book.heaviest;
            }
            return book.kindByNumber(town.nextNumber());
        }

        private int worth(Book book, int kind) {
            return worthless ? 0 : book.worth[kind];
        }

        private int eager(Book book, int house) {
            return eagerest ? 9 : book.eager[house];
        }

        /** What the NAMES are of a HOUSE by now, in the order of their words. */
        void name(Book book, Town town, int house, int kind) {
            names[0] = worth(book, kind);
            names[1] = eager(book, house);
            names[2] = town.purse[house];
            names[3] = town.bill[house];
            names[USED_NAME] = town.used[house];
            names[5] = book.weight[kind];
            names[6] = town.day;
        }

        private void look(Book book, Town town, int house, int kind) {
            name(book, town, house, kind);
            // Without a look law, or with an ERROR of it, the value is ERROR, which isn't 0.
            if (book.laws.value(LOOK_LAW, names) == 0) {
                return;
            }
            town.looked[house]++;
            long use = book.laws.value(USE_LAW, names);
            int more = use == ERROR ? eager(book, house) : clamped(use, 0, 99);
            town.used[house] = Math.min(MOST_MONEY, town.used[house] + more);
            names[USED_NAME] = town.used[house];
            long price = book.laws.value(PRICE_LAW, names);
            int cost = price == ERROR ? worth(book, kind) * more : clamped(price, -999, 999);
            town.bill[house] = clamped(town.bill[house] + cost, -MOST_MONEY, MOST_MONEY);
        }

        private static int clamped(long value, int least, int most) {
            return (int) Math.max(least, Math.min(most, value));
        }

        private static void pay(Book book, Town town, int house) {
            int left = town.purse[house] + book.earns[house] - town.bill[house];
            town.purse[house] = Math.min(MOST_MONEY, left);
            town.bill[house] = 0;
            town.soldUp[house] = left < 0;
        }
    }

    // ---- what can be undone

    private static final class Undoing {
        static final int STEPS = 20;
        static final int DREW = 0;
        static final int SENT = 1;
        static final int LENT = 2;

        final int[] what = new int[STEPS];
        /** The HOUSE whose blind was drawn, the KIND sent before, or the lender. */
        final int[] first = new int[STEPS];
        final int[] second = new int[STEPS];
        final int[] firstPurse = new int[STEPS];
        final int[] secondPurse = new int[STEPS];
        int size;

        void clear() {
            size = 0;
        }

        void drew(int house) {
            add(DREW, house);
        }

        void sent(int former) {
            add(SENT, former);
        }

        /** Both PURSES are kept, as what was above the most of one is lost. */
        void lent(Town town, int from, int to) {
            add(LENT, from);
            second[size - 1] = to;
            firstPurse[size - 1] = town.purse[from];
            secondPurse[size - 1] = town.purse[to];
        }

        private void add(int kindOfStep, int number) {
            if (size >= STEPS) {
                forgetFirst();
            }
            what[size] = kindOfStep;
            first[size] = number;
            size++;
        }

        private void forgetFirst() {
            for (int i = 1; i < STEPS; i++) {
                what[i - 1] = what[i];
                first[i - 1] = first[i];
                second[i - 1] = second[i];
                firstPurse[i - 1] = firstPurse[i];
                secondPurse[i - 1] = secondPurse[i];
            }
            size = STEPS - 1;
        }

        boolean undoLatest(Town town) {
            if (size < 1) {
                return false;
            }
            size--;
            int number = first[size];
            switch (what[size]) {
                case DREW:
                    town.down[number] = !town.down[number];
                    break;
                case SENT:
                    town.sentKind = number;
                    break;
                default:
                    town.purse[number] = firstPurse[size];
                    town.purse[second[size]] = secondPurse[size];
                    break;
            }
            return true;
        }
    }

    // ---- NOTES and STRIKES

    private static final class Diary {
        static final int PAGES = 24;

        /** NONE of a STRIKE. */
        final int[] day = new int[PAGES];
        /** Of a STRIKE the number of what it strikes. */
        final int[] house = new int[PAGES];
        final int[] bill = new int[PAGES];
        final boolean[] orLess = new boolean[PAGES];
        final boolean[] struck = new boolean[PAGES];
        int size;
        /** NONE: by all, also those to come. */
        int knownBy = NONE;

        void clear() {
            size = 0;
            knownBy = NONE;
        }

        int knownCount() {
            return knownBy == NONE ? size : knownBy;
        }

        int addNote(int ofDay, int ofHouse, int much, boolean atMost) {
            if (size >= PAGES) {
                return NONE;
            }
            day[size] = ofDay;
            house[size] = ofHouse;
            bill[size] = much;
            orLess[size] = atMost;
            size++;
            return size - 1;
        }

        int addStrike(int number) {
            return isWithin(number, 0, size - 1) ? addNote(NONE, number, 0, false) : NONE;
        }

        /** From the last one on, since a STRIKE can be struck only by a later one. */
        private void findStruck() {
            for (int i = 0; i < PAGES; i++) {
                struck[i] = false;
            }
            for (int i = knownCount() - 1; i >= 0; i--) {
                if (day[i] == NONE && !struck[i]) {
                    struck[house[i]] = true;
                }
            }
        }

        /** The KINDS (bits) by which all KNOWN NOTES of a DAY are so. */
        int fitting(Book book, int ofDay) {
            findStruck();
            int bits = 0;
            for (int kind = 0; kind < book.kinds; kind++) {
                if (isFitting(book, ofDay, kind)) {
                    bits |= 1 << kind;
                }
            }
            return bits;
        }

        private boolean isFitting(Book book, int ofDay, int kind) {
            for (int i = 0; i < knownCount(); i++) {
                if (day[i] == ofDay && !struck[i]) {
                    boolean atMost = book.alone(house[i], kind) <= bill[i];
                    if (atMost != orLess[i]) {
                        return false;
                    }
                }
            }
            return true;
        }
    }

    // ---- WORKS laid on DAYS

    /**
     * What a WORK costs hangs on its HOUSE and KIND, not on its DAY: so of the WORKS that want a KIND the cheapest, the
     * first of several, have its DAYS, in order.
     */
    private static final class Planner {
        static final int DAYS = 8;

        /** The KINDS of the DAYS to lay WORKS on. */
        final int[] kinds = new int[DAYS];
        final int[] chosen = new int[MOST];
        int laid;
        int sum;

        void lay(Book book, int n) {
            int taken = 0;
            laid = 0;
            sum = 0;
            for (int work = 0; work < book.works; work++) {
                chosen[work] = hasDay(book, n, work) ? firstFree(book, n, work, taken) : NOT_THERE;
                if (chosen[work] != NOT_THERE) {
                    taken |= 1 << chosen[work];
                    laid++;
                    sum += cost(book, work);
                }
            }
        }

        /** Whether there are more DAYS of its KIND than WORKS that have one ahead of it. */
        private boolean hasDay(Book book, int n, int work) {
            int left = 0;
            for (int day = 0; day < n; day++) {
                if (kinds[day] == book.workKind[work]) {
                    left++;
                }
            }
            for (int other = 0; other < book.works; other++) {
                if (book.workKind[other] == book.workKind[work] && comesAhead(book, other, work)) {
                    left--;
                }
            }
            return left > 0;
        }

        private static boolean comesAhead(Book book, int other, int work) {
            int more = cost(book, other) - cost(book, work);
            return more < 0 || (more == 0 && other < work);
        }

        private int firstFree(Book book, int n, int work, int taken) {
            for (int day = 0; day < n; day++) {
                if (!isAmong(day, taken) && kinds[day] == book.workKind[work]) {
                    return day;
                }
            }
            return NOT_THERE;
        }

        private static int cost(Book book, int work) {
            return book.alone(book.workHouse[work], book.workKind[work]);
        }
    }

    // ---- fractions

    private static final class Fraction {
        /** Above the steps that two longs can need. */
        static final int STEPS = 200;

        long above;
        long below = 1;

        /** In least terms; neither is below 0, the one below isn't 0. */
        void put(long over, long under) {
            long common = commonOf(over, under);
            if (common > 0) {
                above = over / common;
                below = under / common;
            }
        }

        long told(int what) {
            return what == 0 ? above : below;
        }

        private static long commonOf(long one, long other) {
            long greater = one;
            long less = other;
            for (int i = 0; i < STEPS && less != 0; i++) {
                long left = greater % less;
                greater = less;
                less = left;
            }
            return greater;
        }
    }
}
