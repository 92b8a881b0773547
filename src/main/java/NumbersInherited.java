/**
 * Heirs of kinds, each of whom has but the numbers that were left to one, and what they can pay each other.
 * ../shared/DOC.md says what each call answers; the words in capitals are the document's.
 */
public final class NumbersInherited {
    public static final int NONE = -1, BAD = -2, STATE = -3, FULL = -4;
    public static final long NO = -4611686018427387904L;

    private static final int NOTHING = -11, OUTSIDE = -12, UNLIKE = -13, BELOW_ZERO = -14;

    private static final int ADDING = 1, HALVING = 2, CLERK = 3, TWIN = 4, MANY = 5;
    private static final int HEIRS = 6, KINDS = 6, MORES = 10, SHEETS = 4, TEXTS = 6;
    private static final int NUMBERS = 30, ALL_NUMBERS = (1 << NUMBERS) - 1;
    private static final int MOST_SUM = 99, MOST_DAY = 99, BOUND = 99;
    private static final int MOST_BYTES = 160, MOST_CELLS = 40, MOST_ROWS = 20, MOST_SEEDS = 20;
    private static final int MISSING = -1, BYTES = 0, SHORTS = 1, INTS = 2;
    private static final int HOW_MANY = 0, THE_FIRST = 1, THE_WORTH = 2;
    private static final String FIRST_TEXT = "says 1 ; meant 1 ; worth n ;";

    private final Heir[] family = new Heir[HEIRS];
    private final Sheet[] sheets = new Sheet[SHEETS];
    private final Law law = new Law();
    private final Paying paying = new Paying(law);
    private final Ways ways = new Ways(paying);
    private final Image kept = new Image();
    // Stand in for HEIRS that would be otherwise, so that a question changes nobody.
    private final Heir asIf = new Heir();
    private final Heir asIfToo = new Heir();
    private int size;

    public NumbersInherited() {
        for (int i = 0; i < HEIRS; i++) {
            family[i] = new Heir();
        }
        for (int i = 0; i < SHEETS; i++) {
            sheets[i] = new Sheet();
        }
    }

    // ---- heirs

    public int set(int what, int of, int v) {
        if (what == 0) {
            return setDay(v);
        }
        Heir heir = heirAt(of);
        if (heir == null || what < 1 || what > 2) {
            return BAD;
        }
        if (what == 1) {
            return setMore(heir, v);
        }
        return setOwn(heir, v);
    }

    public int heir(int kind, int more) {
        if (kind < 0 || kind >= KINDS || more < 0 || more >= MORES) {
            return BAD;
        }
        if (size >= family.length) {
            return FULL;
        }
        Heir newest = family[size];
        newest.number = size;
        newest.kind = kind;
        newest.more = more;
        newest.own = 0;
        size++;
        return newest.number;
    }

    public int give(int a, int b, int n) {
        Heir one = heirAt(a);
        Heir other = heirAt(b);
        if (one == null || other == null || one == other || !isNumber(n)) {
            return BAD;
        }
        if (!has(one.own, n) || has(other.own, n)) {
            return STATE;
        }
        one.own &= ~bit(n);
        other.own |= bit(n);
        return Integer.bitCount(one.own);
    }

    public int told(int of, int what) {
        if (what == 0) {
            return law.day;
        }
        Heir heir = heirAt(of);
        if (heir == null) {
            return BAD;
        }
        switch (what) {
            case 1:
                return heir.more;
            case 2:
                return heir.own;
            case 3:
                return heir.kind;
            case 4:
                return Integer.bitCount(heir.own);
            case 5:
                return heir.sayable();
            default:
                return BAD;
        }
    }

    private Heir heirAt(int number) {
        return number < 0 || number >= size || number >= family.length ? null : family[number];
    }

    private int setDay(int v) {
        if (v < 0 || v > MOST_DAY) {
            return BAD;
        }
        int was = law.day;
        law.day = v;
        return was;
    }

    private static int setMore(Heir heir, int v) {
        if (v < 0 || v >= MORES) {
            return BAD;
        }
        int was = heir.more;
        heir.more = v;
        return was;
    }

    private static int setOwn(Heir heir, int v) {
        if (v < 0 || v > ALL_NUMBERS) {
            return BAD;
        }
        int was = heir.own;
        heir.own = v;
        return was;
    }

    // ---- texts

    public int feed(int letter) {
        if (letter < 0 || letter > 255) {
            return BAD;
        }
        return law.reader.put(letter) ? law.reader.size : FULL;
    }

    public int text() {
        if (law.texts >= TEXTS) {
            return FULL;
        }
        int fault = law.readText();
        return fault == NONE ? law.texts - 1 : -100 - fault;
    }

    public int force(int text) {
        if (text < 0 || text >= law.texts) {
            return BAD;
        }
        int was = law.rule;
        law.rule = text;
        return was;
    }

    // ---- saying, paying

    public int says(int heir, int n, int what) {
        Heir one = heirAt(heir);
        if (one == null || what < 0 || what > 3) {
            return BAD;
        }
        if (what < 2 ? !isNumber(n) : !isSum(n)) {
            return BAD;
        }
        switch (what) {
            case 0:
                return truth(has(one.sayable(), n));
            case 1:
                return law.costs(one, n);
            case 2:
                return truth(law.isMeant(one, n));
            default:
                return law.worthOf(one, n);
        }
    }

    public int common(int a, int b) {
        Heir one = heirAt(a);
        Heir other = heirAt(b);
        if (one == null || other == null || one == other) {
            return BAD;
        }
        return one.sayable() & other.sayable();
    }

    public int pays(int a, int b, int sum, int what) {
        Heir one = heirAt(a);
        Heir other = heirAt(b);
        if (one == null || other == null || one == other || !isSum(sum) || what < 0 || what > 3) {
            return BAD;
        }
        if (what < 2) {
            paying.fillLeast(one, other, sum, what == 1);
            return paying.leastOf(sum);
        }
        ways.lay(family, size, sum);
        ways.walk(a);
        return what == 2 ? ways.costTo(b) : ways.stepsTo(b);
    }

    public int barred(int a, int b, int what) {
        Heir one = heirAt(a);
        Heir other = heirAt(b);
        if (one == null || other == null || one == other || what < HOW_MANY || what > THE_WORTH) {
            return BAD;
        }
        return paying.hindered(one, other, what);
    }

    public int silent(int what) {
        if (what < HOW_MANY || what > THE_FIRST) {
            return BAD;
        }
        paying.hearNone();
        for (int i = 0; i < size; i++) {
            for (int j = i + 1; j < size; j++) {
                paying.hear(heirAt(i), heirAt(j));
            }
        }
        return what == HOW_MANY ? paying.unheard() : paying.firstUnheard();
    }

    public int middle(int sum, int what) {
        if (sum < 1 || sum > MOST_SUM || what < 0 || what > 1) {
            return BAD;
        }
        ways.lay(family, size, sum);
        int best = NONE;
        int most = 0;
        for (int i = 0; i < size; i++) {
            int pairs = ways.partedWithout(i);
            if (pairs > most) {
                most = pairs;
                best = i;
            }
        }
        return what == 0 ? best : most;
    }

    // ---- what would be best

    public int leave(int heir, int what) {
        Heir leaving = heirAt(heir);
        if (leaving == null || what < 0 || what > 1) {
            return BAD;
        }
        int best = NONE;
        int least = NONE;
        for (int i = 0; i < size; i++) {
            if (i != heir) {
                int worth = worthOfLeaving(leaving, heirAt(i));
                if (best == NONE || worth < least) {
                    least = worth;
                    best = i;
                }
            }
        }
        return what == 0 ? best : least;
    }

    public int buy(int a, int b, int what) {
        Heir one = heirAt(a);
        Heir other = heirAt(b);
        if (one == null || other == null || one == other || what < 0 || what > 1) {
            return BAD;
        }
        int best = NONE;
        int fewest = NONE;
        asIf.become(one);
        for (int n = 1; n <= NUMBERS; n++) {
            asIf.own = one.own | bit(n);
            int sums = paying.hindered(asIf, other, HOW_MANY);
            if (best == NONE || sums < fewest) {
                fewest = sums;
                best = n;
            }
        }
        return what == 0 ? best : fewest;
    }

    public int pawn(int a, int b, int what) {
        Heir one = heirAt(a);
        Heir other = heirAt(b);
        if (one == null || other == null || one == other || what < 0 || what > 1) {
            return BAD;
        }
        int best = NONE;
        int fewest = NONE;
        asIf.become(one);
        for (int n = 1; n <= NUMBERS; n++) {
            if (has(one.own, n)) {
                asIf.own = one.own & ~bit(n);
                int sums = MOST_SUM - paying.payable(asIf, other);
                if (best == NONE || sums < fewest) {
                    fewest = sums;
                    best = n;
                }
            }
        }
        return what == 0 ? best : fewest;
    }

    private int worthOfLeaving(Heir leaving, Heir next) {
        if (next == null) {
            return 0;
        }
        asIf.become(next);
        asIf.own = next.own | leaving.own;
        int worth = 0;
        for (int i = 0; i < size; i++) {
            Heir third = heirAt(i);
            if (third != null && third != next && third != leaving) {
                worth += paying.hindered(asIf, third, THE_WORTH);
            }
        }
        return worth;
    }

    // ---- payments that were told

    public int rows(int sheet, int a, int b, int what) {
        Sheet tale = sheetAt(sheet);
        Heir one = heirAt(a);
        Heir other = heirAt(b);
        if (tale == null || one == null || other == null || one == other || what < 0 || what > 5) {
            return BAD;
        }
        if (tale.sort == MISSING) {
            return NOTHING;
        }
        if (!tale.tellsSums()) {
            return BAD;
        }
        switch (what) {
            case 0:
                return paying.firstOtherwise(tale, one, other);
            case 1:
                return kindsAsTold(tale, one, other);
            case 2:
                return moresAsTold(tale, one, other);
            case 3:
                return textsAsTold(tale, one, other);
            case 4:
                return numbersThatMust(tale, one, other);
            default:
                return numbersThatMay(tale, one, other);
        }
    }

    public int film(int sheet, int ab, int sum, int n) {
        Sheet reel = sheetAt(sheet);
        Heir one = heirAt(ab / 10);
        Heir other = heirAt(ab % 10);
        if (reel == null || one == null || other == null || one == other) {
            return BAD;
        }
        if (!isSum(sum) || n < 0 || n > MOST_ROWS) {
            return BAD;
        }
        int many = Math.min(n, MOST_SUM + 1 - sum);
        paying.fillLeast(one, other, MOST_SUM, false);
        reel.lay(SHORTS, 2 * many);
        for (int i = 0; i < many; i++) {
            reel.put(2 * i, sum + i);
            reel.put(2 * i + 1, paying.leastOf(sum + i));
        }
        return many;
    }

    public int drawn(int seed) {
        Heir first = heirAt(0);
        Heir second = heirAt(1);
        if (first == null || second == null) {
            return STATE;
        }
        return payableIfDrawn(seed, first, second);
    }

    public long chance(int seed, int n, int part) {
        Heir first = heirAt(0);
        Heir second = heirAt(1);
        if (n < 1 || n > MOST_SEEDS || part < 0 || part > 1 || first == null || second == null) {
            return NO;
        }
        int now = paying.payable(first, second);
        int above = 0;
        for (int i = 0; i < n; i++) {
            if (payableIfDrawn(seed + i, first, second) > now) {
                above++;
            }
        }
        int measure = commonMeasure(n, above);
        return measure < 1 ? NO : (part == 0 ? above : n) / measure;
    }

    public int image() {
        kept.day = law.day;
        kept.rule = law.rule;
        kept.size = size;
        for (int i = 0; i < size && i < HEIRS; i++) {
            kept.mores[i] = family[i].more;
            kept.owns[i] = family[i].own;
        }
        return size;
    }

    public int back() {
        if (kept.size == NONE) {
            return STATE;
        }
        law.day = kept.day;
        law.rule = kept.rule;
        size = kept.size;
        for (int i = 0; i < size && i < HEIRS; i++) {
            family[i].more = kept.mores[i];
            family[i].own = kept.owns[i];
        }
        return size;
    }

    public int count(int what) {
        switch (what) {
            case 0:
                return size;
            case 1:
                return law.texts;
            case 2:
                return law.reader.size;
            case 3:
                return law.rule;
            case 4:
                return allOwn();
            default:
                return BAD;
        }
    }

    private int kindsAsTold(Sheet tale, Heir one, Heir other) {
        int bits = 0;
        asIf.become(one);
        for (int kind = 0; kind < KINDS; kind++) {
            asIf.kind = kind;
            if (paying.firstOtherwise(tale, asIf, other) == NONE) {
                bits |= 1 << kind;
            }
        }
        return bits;
    }

    private int moresAsTold(Sheet tale, Heir one, Heir other) {
        int bits = 0;
        asIf.become(one);
        for (int more = 0; more < MORES; more++) {
            asIf.more = more;
            if (paying.firstOtherwise(tale, asIf, other) == NONE) {
                bits |= 1 << more;
            }
        }
        return bits;
    }

    private int textsAsTold(Sheet tale, Heir one, Heir other) {
        int bits = 0;
        int rule = law.rule;
        for (int text = 0; text < law.texts; text++) {
            law.rule = text;
            if (paying.firstOtherwise(tale, one, other) == NONE) {
                bits |= 1 << text;
            }
        }
        law.rule = rule;
        return bits;
    }

    private int numbersThatMust(Sheet tale, Heir one, Heir other) {
        int bits = 0;
        asIf.become(one);
        for (int n = 1; n <= NUMBERS; n++) {
            if (has(one.own, n)) {
                asIf.own = one.own & ~bit(n);
                if (paying.firstOtherwise(tale, asIf, other) != NONE) {
                    bits |= bit(n);
                }
            }
        }
        return bits;
    }

    private int numbersThatMay(Sheet tale, Heir one, Heir other) {
        int bits = 0;
        asIf.become(one);
        for (int n = 1; n <= NUMBERS; n++) {
            if (!has(one.own, n)) {
                asIf.own = one.own | bit(n);
                if (paying.firstOtherwise(tale, asIf, other) == NONE) {
                    bits |= bit(n);
                }
            }
        }
        return bits;
    }

    private int payableIfDrawn(int seed, Heir first, Heir second) {
        asIf.become(first);
        asIfToo.become(second);
        int next = asIf.drawOwn(seed);
        asIfToo.drawOwn(next);
        return paying.payable(asIf, asIfToo);
    }

    private static int commonMeasure(int above, int below) {
        int big = above;
        int small = below;
        for (int i = 0; i < MOST_SEEDS && small != 0; i++) {
            int rest = big % small;
            big = small;
            small = rest;
        }
        return big;
    }

    private int allOwn() {
        int many = 0;
        for (int i = 0; i < size && i < HEIRS; i++) {
            many += Integer.bitCount(family[i].own);
        }
        return many;
    }

    // ---- the host

    public int sheet(int sheet, int sort, int n) {
        Sheet blank = sheetAt(sheet);
        if (blank == null || sort < MISSING || sort > INTS) {
            return BAD;
        }
        if (sort == MISSING) {
            blank.lay(MISSING, 0);
            return 1;
        }
        if (n > MOST_CELLS) {
            return BAD;
        }
        if (n < 0) {
            return BELOW_ZERO;
        }
        blank.lay(sort, n);
        return 1;
    }

    public int cell(int sheet, int i, int v) {
        Sheet row = sheetAt(sheet);
        if (row == null) {
            return BAD;
        }
        if (row.sort == MISSING) {
            return NOTHING;
        }
        if (!row.holds(i)) {
            return OUTSIDE;
        }
        row.put(i, v);
        return 1;
    }

    public int copy(int sheet, int i, int other, int j, int n) {
        Sheet from = sheetAt(sheet);
        Sheet to = sheetAt(other);
        if (from == null || to == null) {
            return BAD;
        }
        if (from.sort == MISSING || to.sort == MISSING) {
            return NOTHING;
        }
        if (from.sort != to.sort) {
            return UNLIKE;
        }
        if (!from.holdsRun(i, n) || !to.holdsRun(j, n)) {
            return OUTSIDE;
        }
        System.arraycopy(from.items, i, to.items, j, n);
        return n;
    }

    public int heirs(int sheet, int sort, int from, int n) {
        Sheet row = sheetAt(sheet);
        if (row == null || sort < BYTES || sort > INTS || n < 0 || n > HEIRS) {
            return BAD;
        }
        // A missing SHEET can be taken for one of any sort: there only is nothing in it.
        if (row.sort != MISSING && row.sort != sort) {
            return UNLIKE;
        }
        if (row.sort == MISSING) {
            return NOTHING;
        }
        int came = 0;
        int place = from;
        for (int k = 0; k < n; k++) {
            if (!row.holdsRun(place, 2)) {
                return OUTSIDE;
            }
            if (heir(row.at(place), row.at(place + 1)) >= 0) {
                came++;
            }
            place += 2;
        }
        return came;
    }

    public int taken(int heir, int k) {
        if (k < 0 || k >= KINDS) {
            return BAD;
        }
        Heir one = heirAt(heir);
        if (one == null) {
            return NOTHING;
        }
        return isUnder(one.kind, k) ? one.more : UNLIKE;
    }

    private Sheet sheetAt(int sheet) {
        return sheet < 0 || sheet >= sheets.length ? null : sheets[sheet];
    }

    private static boolean isUnder(int kind, int top) {
        int at = kind;
        for (int i = 0; i < KINDS && at >= 0 && at < KINDS; i++) {
            if (at == top) {
                return true;
            }
            at = kindAbove(at);
        }
        return false;
    }

    private static int kindAbove(int kind) {
        switch (kind) {
            case ADDING:
            case HALVING:
            case MANY:
                return 0;
            case CLERK:
                return ADDING;
            case TWIN:
                return HALVING;
            default:
                return NONE;
        }
    }

    // ---- numbers

    private static boolean isNumber(int n) {
        return n >= 1 && n <= NUMBERS;
    }

    private static boolean isSum(int n) {
        return n >= 0 && n <= MOST_SUM;
    }

    private static int bit(int n) {
        return 1 << (n - 1);
    }

    private static boolean has(int bits, int n) {
        return (bits & bit(n)) != 0;
    }

    private static int truth(boolean isSo) {
        return isSo ? 1 : 0;
    }

    /** An HEIR, or one as it would be. */
    private static final class Heir {
        private static final int MANY_ABOVE = 20;

        private int number;
        private int kind;
        private int more;
        private int own;

        void become(Heir other) {
            number = other.number;
            kind = other.kind;
            more = other.more;
            own = other.own;
        }

        /** NUMBERS that one can say (bits). */
        int sayable() {
            switch (kind) {
                case ADDING:
                    return own | sums();
                case HALVING:
                    return own | halves();
                case CLERK:
                    return own | sums() | rests();
                case TWIN:
                    return own | halves() | (isNumber(more) ? bit(more) : 0);
                case MANY:
                    return own | above(MANY_ABOVE + more);
                default:
                    return own;
            }
        }

        /** What it COSTS to say a NUMBER of which the says of THE RULE tells v. */
        int costsFor(int v) {
            switch (kind) {
                case ADDING:
                    return v + 1;
                case HALVING:
                case TWIN:
                    return v + more;
                case CLERK:
                    return (v + 1) / 2;
                case MANY:
                    return 2 * v;
                default:
                    return v;
            }
        }

        // A NUMBER is a place in a row of bits, so that moving the row adds that NUMBER to all, or takes it away.

        private int sums() {
            int bits = 0;
            for (int n = 1; n <= NUMBERS; n++) {
                bits |= has(own, n) ? own << n : 0;
            }
            return bits & ALL_NUMBERS;
        }

        private int rests() {
            int bits = 0;
            for (int n = 1; n <= NUMBERS; n++) {
                bits |= has(own, n) ? own >> n : 0;
            }
            return bits;
        }

        private int halves() {
            int bits = 0;
            for (int n = 1; 2 * n <= NUMBERS; n++) {
                bits |= has(own, 2 * n) ? bit(n) : 0;
            }
            return bits;
        }

        private static int above(int bound) {
            int bits = 0;
            for (int n = bound + 1; n <= NUMBERS; n++) {
                bits |= bit(n);
            }
            return bits;
        }

        /** OWN by a SEED; answers the SEED of the next HEIR. */
        int drawOwn(int seed) {
            int z = seed * 1103515245 + 12345;
            int y = z * 1103515245 + 12345;
            own = (y >>> 9) % 1024 * 1024 + (z >>> 9) % 1024;
            return y;
        }
    }

    /** What image() keeps; size is NONE till then. */
    private static final class Image {
        private int size = NONE;
        private int day;
        private int rule;
        private final int[] mores = new int[HEIRS];
        private final int[] owns = new int[HEIRS];
    }

    /** A SHEET: one row of room for any size, so that laying a SHEET anew makes no array. */
    private static final class Sheet {
        private int sort = MISSING;
        private int size;
        private final int[] items = new int[MOST_CELLS];

        void lay(int newSort, int newSize) {
            sort = newSort;
            size = newSize;
            for (int i = 0; i < items.length; i++) {
                items[i] = 0;
            }
        }

        boolean holds(int i) {
            return i >= 0 && i < size && i < items.length;
        }

        boolean holdsRun(int i, int n) {
            return i >= 0 && n >= 0 && n <= size && i <= size - n;
        }

        int at(int i) {
            return holds(i) ? items[i] : 0;
        }

        void put(int i, int v) {
            if (holds(i)) {
                items[i] = sort == BYTES ? (byte) v : sort == SHORTS ? (short) v : v;
            }
        }

        boolean tellsSums() {
            if (size % 2 != 0) {
                return false;
            }
            for (int i = 0; i < size; i += 2) {
                if (!isSum(at(i))) {
                    return false;
                }
            }
            return true;
        }
    }

    /** The TEXTS, and what THE RULE tells of an HEIR on THE DAY. */
    private static final class Law {
        private static final int SAYS = 0, MEANT = 1, WORTH = 2, PARTS = 3;
        private static final int NAMES = 6, STACK = 64;

        private final Reader reader = new Reader();
        private final int[][] codes = new int[TEXTS][MOST_BYTES];
        private final int[][] starts = new int[TEXTS][PARTS];
        private final int[] names = new int[NAMES];
        private final int[] stack = new int[STACK];
        private int texts;
        private int rule;
        private int day;

        Law() {
            for (int i = 0; i < FIRST_TEXT.length(); i++) {
                reader.put(FIRST_TEXT.charAt(i));
            }
            readText();
        }

        /** The place of the FAULT; NONE: it has become the last of the TEXTS. */
        int readText() {
            if (texts < 0 || texts >= TEXTS) {
                return 0;
            }
            int fault = reader.read(codes[texts], starts[texts]);
            if (fault == NONE) {
                texts++;
            }
            return fault;
        }

        int costs(Heir heir, int n) {
            name(heir, n, truth(has(heir.own, n)));
            return Math.max(1, heir.costsFor(bounded(value(SAYS))));
        }

        boolean isMeant(Heir heir, int sum) {
            name(heir, sum, 0);
            return value(MEANT) != 0;
        }

        int worthOf(Heir heir, int sum) {
            name(heir, sum, 0);
            return bounded(value(WORTH));
        }

        // In the order of the NAMES in Reader.
        private void name(Heir heir, int n, int own) {
            names[0] = n;
            names[1] = own;
            names[2] = heir.more;
            names[3] = Integer.bitCount(heir.own);
            names[4] = heir.number;
            names[5] = day;
        }

        private static int bounded(int value) {
            return Math.max(0, Math.min(BOUND, value));
        }

        private int value(int part) {
            if (rule < 0 || rule >= TEXTS) {
                return 0;
            }
            int[] code = codes[rule];
            int top = 0;
            for (int i = starts[rule][part]; i < code.length && code[i] != Reader.STOP; i++) {
                int sign = code[i];
                if (sign > Reader.FIRST_SIGN) {
                    if (top < STACK) {
                        stack[top] = operand(sign);
                        top++;
                    }
                } else if (sign == Reader.NEGATED || sign == Reader.NOT) {
                    if (top >= 1) {
                        int v = stack[top - 1];
                        stack[top - 1] = sign == Reader.NOT ? truth(v == 0) : -v;
                    }
                } else if (top >= 2) {
                    top--;
                    stack[top - 1] = joined(sign, stack[top - 1], stack[top]);
                }
            }
            return top < 1 ? 0 : stack[top - 1];
        }

        private int operand(int code) {
            if (code >= 0) {
                return code;
            }
            int i = -1 - code;
            return i < NAMES ? names[i] : 0;
        }

        private static int joined(int code, int v, int w) {
            switch (code) {
                case Reader.TIMES:
                    return v * w;
                case Reader.PLUS:
                    return v + w;
                case Reader.MINUS:
                    return v - w;
                case Reader.BELOW:
                    return truth(v < w);
                case Reader.SAME:
                    return truth(v == w);
                case Reader.BOTH:
                    return truth(v != 0 && w != 0);
                default:
                    return truth(v != 0 || w != 0);
            }
        }
    }

    /**
     * THE TAPE, and its reading as a TEXT. What is read is written down operands first: NUMBERS as they are,
     * NAMES as -1 less their place in the row of NAMES, signs by the codes below.
     */
    private static final class Reader {
        static final int FIRST_SIGN = -10;
        static final int NOT = -11, NEGATED = -12;
        static final int TIMES = -20, PLUS = -21, MINUS = -22, BELOW = -23, SAME = -24, BOTH = -25, EITHER = -26;
        static final int STOP = -30;

        private static final int MOST_OPEN = 5, MOST_DIGITS = 4;
        // TOKENS: signs are their own bytes, WORDS stand from WORD on in the order of word().
        private static final int WRONG = 0, END = 1, NUMBER = 2, WORD = 1000, WORDS = 12, NAMES = 6;
        private static final int KEY_SAYS = WORD + 6, KEY_OR = WORD + 9, KEY_AND = WORD + 10, KEY_NOT = WORD + 11;

        private final int[] bytes = new int[MOST_BYTES];
        private int size;
        private int place;
        private int token;
        private int begin;
        private int amount;
        private int[] code;
        private int written;

        boolean put(int letter) {
            if (size >= bytes.length) {
                return false;
            }
            bytes[size] = letter;
            size++;
            return true;
        }

        /** Empties THE TAPE; answers the place of the FAULT, NONE: there is none. */
        int read(int[] newCode, int[] starts) {
            code = newCode;
            written = 0;
            place = 0;
            next();
            int part = 0;
            while (part < starts.length && token == KEY_SAYS + part) {
                starts[part] = written;
                next();
                if (!either(0) || token != ';') {
                    break;
                }
                write(STOP);
                next();
                part++;
            }
            size = 0;
            return part == starts.length && token == END ? NONE : begin;
        }

        // Each of these answers false as soon as the TOKEN at hand can't stand where it does; open says how many
        // of ( not - are open.

        private boolean either(int open) {
            if (!both(open)) {
                return false;
            }
            for (int i = 0; i < size && token == KEY_OR; i++) {
                next();
                if (!both(open)) {
                    return false;
                }
                write(EITHER);
            }
            return true;
        }

        private boolean both(int open) {
            if (!not(open)) {
                return false;
            }
            for (int i = 0; i < size && token == KEY_AND; i++) {
                next();
                if (!not(open)) {
                    return false;
                }
                write(BOTH);
            }
            return true;
        }

        private boolean not(int open) {
            if (token != KEY_NOT) {
                return compared(open);
            }
            if (open >= MOST_OPEN) {
                return false;
            }
            next();
            if (!not(open + 1)) {
                return false;
            }
            write(NOT);
            return true;
        }

        private boolean compared(int open) {
            if (!sum(open)) {
                return false;
            }
            if (token != '<' && token != '=') {
                return true;
            }
            int sign = token == '<' ? BELOW : SAME;
            next();
            if (!sum(open)) {
                return false;
            }
            write(sign);
            return true;
        }

        private boolean sum(int open) {
            if (!term(open)) {
                return false;
            }
            for (int i = 0; i < size && (token == '+' || token == '-'); i++) {
                int sign = token == '+' ? PLUS : MINUS;
                next();
                if (!term(open)) {
                    return false;
                }
                write(sign);
            }
            return true;
        }

        private boolean term(int open) {
            if (!single(open)) {
                return false;
            }
            for (int i = 0; i < size && token == '*'; i++) {
                next();
                if (!single(open)) {
                    return false;
                }
                write(TIMES);
            }
            return true;
        }

        private boolean single(int open) {
            if (token == NUMBER) {
                write(amount);
                next();
                return true;
            }
            if (token >= WORD && token < WORD + NAMES) {
                write(-1 - (token - WORD));
                next();
                return true;
            }
            if (token != '(' && token != '-' || open >= MOST_OPEN) {
                return false;
            }
            return token == '(' ? bracket(open + 1) : negated(open + 1);
        }

        private boolean bracket(int open) {
            next();
            if (!either(open) || token != ')') {
                return false;
            }
            next();
            return true;
        }

        private boolean negated(int open) {
            next();
            if (!single(open)) {
                return false;
            }
            write(NEGATED);
            return true;
        }

        // No TOKEN writes more than one code, so there is room for all of a TAPE's.
        private void write(int newCode) {
            if (code != null && written < code.length) {
                code[written] = newCode;
                written++;
            }
        }

        private void next() {
            while (place < size && (bytes[place] == ' ' || bytes[place] == '\n')) {
                place++;
            }
            begin = place;
            if (place >= size) {
                token = END;
                return;
            }
            int first = bytes[place];
            place++;
            if (isLetter(first)) {
                nextWord();
            } else if (isDigit(first)) {
                nextNumber();
            } else {
                token = isSign(first) ? first : WRONG;
            }
        }

        private void nextWord() {
            while (place < size && isLetter(bytes[place])) {
                place++;
            }
            token = WRONG;
            for (int i = 0; i < WORDS; i++) {
                if (stands(word(i))) {
                    token = WORD + i;
                }
            }
        }

        private void nextNumber() {
            while (place < size && isDigit(bytes[place])) {
                place++;
            }
            amount = 0;
            for (int i = begin; i < place && i < begin + MOST_DIGITS; i++) {
                amount = 10 * amount + bytes[i] - '0';
            }
            token = place - begin > MOST_DIGITS ? WRONG : NUMBER;
        }

        private boolean stands(String word) {
            if (word.length() != place - begin) {
                return false;
            }
            for (int i = 0; i < word.length(); i++) {
                if (word.charAt(i) != bytes[begin + i]) {
                    return false;
                }
            }
            return true;
        }

        private static String word(int i) {
            switch (i) {
                case 0:
                    return "n";
                case 1:
                    return "own";
                case 2:
                    return "more";
                case 3:
                    return "many";
                case 4:
                    return "heir";
                case 5:
                    return "day";
                case 6:
                    return "says";
                case 7:
                    return "meant";
                case 8:
                    return "worth";
                case 9:
                    return "or";
                case 10:
                    return "and";
                default:
                    return "not";
            }
        }

        private static boolean isLetter(int b) {
            return b >= 'a' && b <= 'z';
        }

        private static boolean isDigit(int b) {
            return b >= '0' && b <= '9';
        }

        private static boolean isSign(int b) {
            return "();+-*<=".indexOf((char) b) >= 0;
        }
    }

    /** What two can PAY each other: rows over all SUMS, filled anew for each question. */
    private static final class Paying {
        private final Law law;
        private final int[] parts = new int[NUMBERS];
        private final int[] weights = new int[NUMBERS];
        private final int[] least = new int[MOST_SUM + 1];
        private final boolean[] can = new boolean[MOST_SUM + 1];
        private final boolean[] heard = new boolean[MOST_SUM + 1];

        Paying(Law newLaw) {
            law = newLaw;
        }

        /** For SUMS up to last: the least of COSTS; or, if each PART counts 1, FEWEST. */
        void fillLeast(Heir one, Heir other, int last, boolean counted) {
            int many = fillParts(one.sayable() & other.sayable());
            for (int k = 0; k < many; k++) {
                weights[k] = counted ? 1 : law.costs(one, parts[k]) + law.costs(other, parts[k]);
            }
            least[0] = 0;
            for (int sum = 1; sum <= last && sum <= MOST_SUM; sum++) {
                least[sum] = leastAt(sum, many);
            }
        }

        int leastOf(int sum) {
            return isSum(sum) ? least[sum] : NONE;
        }

        private int fillParts(int bits) {
            int many = 0;
            for (int n = 1; n <= NUMBERS; n++) {
                if (has(bits, n)) {
                    parts[many] = n;
                    many++;
                }
            }
            return many;
        }

        // Needs the SUMS below it.
        private int leastAt(int sum, int many) {
            int best = NONE;
            for (int k = 0; k < many && parts[k] <= sum; k++) {
                int rest = least[sum - parts[k]];
                if (rest != NONE && (best == NONE || rest + weights[k] < best)) {
                    best = rest + weights[k];
                }
            }
            return best;
        }

        private void fillCan(Heir one, Heir other) {
            int common = one.sayable() & other.sayable();
            can[0] = true;
            for (int sum = 1; sum <= MOST_SUM; sum++) {
                can[sum] = false;
            }
            for (int n = 1; n <= NUMBERS; n++) {
                // A NUMBER that lesser ones make already opens no SUM more.
                if (has(common, n) && !can[n]) {
                    for (int sum = n; sum <= MOST_SUM; sum++) {
                        can[sum] = can[sum] || can[sum - n];
                    }
                }
            }
        }

        /** How many SUMS 1 .. 99 the one can PAY the other. */
        int payable(Heir one, Heir other) {
            fillCan(one, other);
            int many = 0;
            for (int sum = 1; sum <= MOST_SUM; sum++) {
                many += truth(can[sum]);
            }
            return many;
        }

        /** What is BARRED: as of barred(). */
        int hindered(Heir one, Heir other, int what) {
            fillCan(one, other);
            int many = 0;
            int first = NONE;
            int worth = 0;
            for (int sum = 1; sum <= MOST_SUM; sum++) {
                if (!can[sum] && law.isMeant(one, sum)) {
                    many++;
                    first = first == NONE ? sum : first;
                    worth += what == THE_WORTH ? law.worthOf(one, sum) : 0;
                }
            }
            return what == HOW_MANY ? many : what == THE_FIRST ? first : worth;
        }

        void hearNone() {
            for (int sum = 0; sum <= MOST_SUM; sum++) {
                heard[sum] = false;
            }
        }

        void hear(Heir one, Heir other) {
            if (one == null || other == null) {
                return;
            }
            fillCan(one, other);
            for (int sum = 0; sum <= MOST_SUM; sum++) {
                heard[sum] = heard[sum] || can[sum];
            }
        }

        int unheard() {
            int many = 0;
            for (int sum = 1; sum <= MOST_SUM; sum++) {
                many += truth(!heard[sum]);
            }
            return many;
        }

        int firstUnheard() {
            for (int sum = 1; sum <= MOST_SUM; sum++) {
                if (!heard[sum]) {
                    return sum;
                }
            }
            return NONE;
        }

        /** The first row that is not as the one PAYS the other; NONE: all are so. */
        int firstOtherwise(Sheet tale, Heir one, Heir other) {
            fillLeast(one, other, MOST_SUM, false);
            for (int i = 0; i + 1 < tale.size; i += 2) {
                if (leastOf(tale.at(i)) != tale.at(i + 1)) {
                    return i / 2;
                }
            }
            return NONE;
        }
    }

    /** How a SUM can go from HEIR to HEIR. */
    private static final class Ways {
        private final Paying paying;
        private final int[][] toll = new int[HEIRS][HEIRS];
        private final int[] cost = new int[HEIRS];
        private final int[] steps = new int[HEIRS];
        private int size;

        Ways(Paying newPaying) {
            paying = newPaying;
        }

        void lay(Heir[] family, int newSize, int sum) {
            size = Math.max(0, Math.min(newSize, Math.min(HEIRS, family.length)));
            for (int i = 0; i < size; i++) {
                toll[i][i] = NONE;
                for (int j = i + 1; j < size; j++) {
                    paying.fillLeast(family[i], family[j], sum, false);
                    // What it COSTS does not ask who of the two PAYS.
                    toll[i][j] = paying.leastOf(sum);
                    toll[j][i] = toll[i][j];
                }
            }
        }

        /** Finds, for each HEIR, the least of COSTS, and the fewest PAYMENTS among like ones. */
        void walk(int from) {
            for (int i = 0; i < size; i++) {
                cost[i] = i == from ? 0 : NONE;
                steps[i] = i == from ? 0 : NONE;
            }
            for (int round = 1; round < size; round++) {
                for (int i = 0; i < size; i++) {
                    walkOn(i);
                }
            }
        }

        private void walkOn(int i) {
            if (cost[i] == NONE) {
                return;
            }
            for (int j = 0; j < size; j++) {
                int sum = cost[i] + toll[i][j];
                if (toll[i][j] != NONE && isBetter(sum, steps[i] + 1, j)) {
                    cost[j] = sum;
                    steps[j] = steps[i] + 1;
                }
            }
        }

        private boolean isBetter(int sum, int payments, int j) {
            return cost[j] == NONE || sum < cost[j] || sum == cost[j] && payments < steps[j];
        }

        int costTo(int i) {
            return i < 0 || i >= size ? NONE : cost[i];
        }

        int stepsTo(int i) {
            return i < 0 || i >= size ? NONE : steps[i];
        }

        /** How many pairs of others have a way now, and none without that HEIR. */
        int partedWithout(int heir) {
            int pairs = 0;
            for (int i = 0; i < size; i++) {
                if (i != heir) {
                    int lost = reached(i, NONE) & ~reached(i, heir);
                    for (int j = i + 1; j < size; j++) {
                        pairs += j == heir ? 0 : lost >> j & 1;
                    }
                }
            }
            return pairs;
        }

        /** HEIRS (bits) to whom there is a way that shuns one. */
        private int reached(int from, int shunned) {
            int bits = 1 << from;
            for (int round = 1; round < size; round++) {
                for (int i = 0; i < size; i++) {
                    for (int j = 0; j < size; j++) {
                        if ((bits >> i & 1) != 0 && j != shunned && toll[i][j] != NONE) {
                            bits |= 1 << j;
                        }
                    }
                }
            }
            return bits;
        }
    }
}
