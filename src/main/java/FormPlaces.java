/**
 * Sums of squares over fractions, looked at from the real PLACE and from those of six PRIMES.
 * The words in capitals are those of the document.
 */
public final class FormPlaces {
    public static final int NONE = -1, UNKNOWN = -101, OUTSIDE = -102, STATE = -103, FULL = -104;

    private static final int SHELVES = 8;
    private static final int MOST_TERMS = 4;
    private static final int CLASSES = 128;
    private static final int ALL_PLACES = 127;
    private static final int REAL_BIT = 1;
    /** CLASS 1, whose CORE is -1. */
    private static final int MINUS_ONE = 1;
    private static final int MOST_OF_NUMBER = 99;
    private static final int MOST_OF_TURN = 15;
    private static final int MOST_OF_ROW = 15;
    private static final int MOST_OF_WAY = 9;
    private static final int LEAST_N = 3;
    private static final int MOST_N = 160;
    private static final int LAST_ABOUT = 8;
    private static final int LAST_OF_PAIR = 4;
    private static final int LAST_COUNT = 9;
    /** What the bit of each PLACE brings into a CORE. */
    private static final int[] BASES = {-1, 2, 3, 5, 7, 11, 13};
    /** For each PLACE of an odd PRIME the bits of the rests, not 0, that are squares by it. */
    private static final int[] SQUARE_RESTS = {0, 0, 2, 18, 22, 570, 5658};

    private final Page page;
    private final Form[] shelves;
    /** What comes to a SHELF is made here first, as it may be made of what lies there. */
    private final Form draft;
    private final Steps steps;
    private final Pairs opened;
    private final Sum sum;
    private final LeastRow least;

    public FormPlaces() {
        page = new Page();
        shelves = new Form[SHELVES];
        for (int shelf = 0; shelf < SHELVES; shelf++) {
            shelves[shelf] = new Form();
        }
        draft = new Form();
        steps = new Steps();
        opened = new Pairs();
        sum = new Sum();
        least = new LeastRow(sum);
    }

    // ---- texts

    public int letter(int code) {
        if (code < 32 || code > 126) {
            return OUTSIDE;
        }
        return page.write(code) ? page.length : FULL;
    }

    public int blank() {
        int had = page.length;
        page.length = 0;
        return had;
    }

    public int fault() {
        return page.readInto(draft);
    }

    public int put(int shelf) {
        if (!isShelf(shelf)) {
            return UNKNOWN;
        }
        if (page.readInto(draft) < page.length || !page.endsInDigit()) {
            return STATE;
        }
        page.length = 0;
        shelveDraft(shelf);
        return shelves[shelf].rank;
    }

    // ---- numbers, places

    public int classOf(int number) {
        return Numbers.isNumber(number) ? Numbers.kindOf(number) : OUTSIDE;
    }

    public int core(int kind) {
        return isKind(kind) ? Numbers.coreOf(kind) : OUTSIDE;
    }

    public int symbol(int one, int other, int place) {
        if (!isPlace(place)) {
            return UNKNOWN;
        }
        if (!isKind(one) || !isKind(other)) {
            return OUTSIDE;
        }
        return (sum.symbolBits(one, other) >> place & 1) == 0 ? 1 : -1;
    }

    public int square(int kind, int place) {
        if (!isPlace(place)) {
            return UNKNOWN;
        }
        if (!isKind(kind)) {
            return OUTSIDE;
        }
        return (sum.unsquareBits(kind) >> place & 1) == 0 ? 1 : 0;
    }

    // ---- forms

    public int at(int shelf, int term) {
        if (!hasTerm(shelf, term)) {
            return UNKNOWN;
        }
        return Numbers.coreOf(shelves[shelf].kindAt(term));
    }

    public int about(int shelf, int what) {
        if (!hasForm(shelf)) {
            return UNKNOWN;
        }
        if (what < 0 || what > LAST_ABOUT) {
            return OUTSIDE;
        }
        Form form = shelves[shelf];
        switch (what) {
            case 0: return form.rank;
            case 1: return form.countAbove();
            case 2: return form.det();
            case 3: return form.hasse;
            case 4: return form.bars;
            case 5: return form.planes();
            case 6: return form.restDet();
            case 7: return form.restHasse(sum);
            default: return leastLike(shelf);
        }
    }

    public int like(int one, int other) {
        if (!hasForm(one) || !hasForm(other)) {
            return UNKNOWN;
        }
        return unlikeBits(shelves[one], shelves[other]);
    }

    public int meets(int shelf, int number) {
        if (!hasForm(shelf)) {
            return UNKNOWN;
        }
        if (!Numbers.isNumber(number)) {
            return OUTSIDE;
        }
        startAgainst(shelves[shelf], number);
        return sum.bars();
    }

    public int row(int shelf, int term) {
        if (!hasTerm(shelf, term)) {
            return UNKNOWN;
        }
        sum.start();
        sum.addAll(shelves[shelf]);
        return least.find(MOST_OF_ROW, false) ? least.numberAt(term) : NONE;
    }

    public int way(int shelf, int number, int term) {
        if (!hasForm(shelf) || term < 0 || term > shelves[shelf].rank) {
            return UNKNOWN;
        }
        if (!Numbers.isNumber(number)) {
            return OUTSIDE;
        }
        startAgainst(shelves[shelf], number);
        return least.find(MOST_OF_WAY, true) ? least.numberAt(term) : NONE;
    }

    // ---- steps

    public int clear(int shelf) {
        if (!hasForm(shelf)) {
            return UNKNOWN;
        }
        int rank = shelves[shelf].rank;
        draft.empty();
        shelveDraft(shelf);
        return rank;
    }

    public int join(int one, int other, int to) {
        if (!hasForm(one) || !hasForm(other) || !isShelf(to)) {
            return UNKNOWN;
        }
        if (shelves[one].rank + shelves[other].rank > MOST_TERMS) {
            return FULL;
        }
        draft.copy(shelves[one]);
        draft.addTimes(shelves[other], 0);
        shelveDraft(to);
        return shelves[to].rank;
    }

    public int times(int one, int other, int to) {
        if (!hasForm(one) || !hasForm(other) || !isShelf(to)) {
            return UNKNOWN;
        }
        Form first = shelves[one];
        if (first.rank * shelves[other].rank > MOST_TERMS) {
            return FULL;
        }
        draft.empty();
        for (int term = 0; term < first.rank; term++) {
            draft.addTimes(shelves[other], first.kindAt(term));
        }
        shelveDraft(to);
        return shelves[to].rank;
    }

    public int scale(int shelf, int number) {
        if (!hasForm(shelf)) {
            return UNKNOWN;
        }
        if (!Numbers.isNumber(number)) {
            return OUTSIDE;
        }
        draft.empty();
        draft.addTimes(shelves[shelf], Numbers.kindOf(number));
        shelveDraft(shelf);
        return shelves[shelf].det();
    }

    public int turn(int shelf, int i, int j, int x, int y) {
        if (!hasTerm(shelf, i) || !hasTerm(shelf, j)) {
            return UNKNOWN;
        }
        if (x < 0 || x > MOST_OF_TURN || y < 0 || y > MOST_OF_TURN) {
            return OUTSIDE;
        }
        int first = shelves[shelf].kindAt(i);
        int second = shelves[shelf].kindAt(j);
        int turned = Numbers.coreOf(first) * x * x + Numbers.coreOf(second) * y * y;
        if (i == j || turned == 0 || !Numbers.isSquareTimesCore(turned)) {
            return STATE;
        }
        int kind = Numbers.kindOf(turned);
        draft.copy(shelves[shelf]);
        draft.change(i, kind);
        draft.change(j, first ^ second ^ kind);
        shelveDraft(shelf);
        return Numbers.coreOf(kind);
    }

    public int drop(int shelf, int term) {
        if (!hasTerm(shelf, term)) {
            return UNKNOWN;
        }
        Form form = shelves[shelf];
        if (form.rank == 1) {
            return STATE;
        }
        draft.empty();
        for (int other = 0; other < form.rank; other++) {
            if (other != term) {
                draft.add(form.kindAt(other));
            }
        }
        shelveDraft(shelf);
        return form.rank;
    }

    public int undo() {
        if (steps.kept == 0) {
            return STATE;
        }
        int shelf = steps.takeBack(draft);
        if (!isShelf(shelf)) {
            return STATE;
        }
        shelves[shelf].copy(draft);
        return shelf;
    }

    // ---- pairs

    public int pairs(int n) {
        if (n < LEAST_N || n > MOST_N || n % 4 == 1 || n % 4 == 2) {
            return OUTSIDE;
        }
        opened.open(n);
        return opened.size;
    }

    public int pair(int pair, int what) {
        if (!opened.has(pair)) {
            return UNKNOWN;
        }
        if (what < 0 || what > LAST_OF_PAIR) {
            return OUTSIDE;
        }
        switch (what) {
            case 0: return opened.first[pair];
            case 1: return opened.middle[pair];
            case 2: return opened.last[pair];
            case 3: return opened.genus[pair];
            default: return opened.countMet(pair);
        }
    }

    public int met(int pair, int rest) {
        if (!opened.has(pair)) {
            return UNKNOWN;
        }
        if (rest < 0 || rest >= opened.n) {
            return OUTSIDE;
        }
        return opened.isMet(pair, rest) ? 1 : 0;
    }

    public int lay(int pair, int shelf) {
        if (!opened.has(pair) || !isShelf(shelf)) {
            return UNKNOWN;
        }
        if (Numbers.roughPart(opened.n) != 1) {
            return STATE;
        }
        int first = opened.first[pair];
        draft.empty();
        draft.add(Numbers.kindOf(first));
        draft.add(Numbers.kindOf(first * opened.n));
        shelveDraft(shelf);
        return shelves[shelf].det();
    }

    // ---- what is told of all

    public int count(int what) {
        switch (what) {
            case 0: return countForms();
            case 1: return countTerms();
            case 2: return countUnlike();
            case 3: return steps.kept;
            case 4: return page.length;
            case 5: return opened.n;
            case 6: return opened.size;
            case 7: return opened.countGenera();
            case 8: return steps.done;
            case LAST_COUNT: return steps.undone;
            default: return OUTSIDE;
        }
    }

    public long digest() {
        long hash = 1487;
        for (int shelf = 0; shelf < SHELVES; shelf++) {
            if (!hasForm(shelf)) {
                hash = mix(hash, 0);
                continue;
            }
            for (int what = 0; what <= LAST_ABOUT; what++) {
                hash = mix(hash, about(shelf, what));
            }
            for (int term = 0; term < shelves[shelf].rank; term++) {
                hash = mix(hash, at(shelf, term));
            }
        }
        for (int pair = 0; pair < opened.size; pair++) {
            for (int what = 0; what <= LAST_OF_PAIR; what++) {
                hash = mix(hash, pair(pair, what));
            }
        }
        for (int place = 0; place < page.length; place++) {
            hash = mix(hash, page.codeAt(place));
        }
        for (int what = 0; what <= LAST_COUNT; what++) {
            hash = mix(hash, count(what));
        }
        return hash;
    }

    // ---- what the calls share

    private static boolean isShelf(int shelf) {
        return shelf >= 0 && shelf < SHELVES;
    }

    private static boolean isPlace(int place) {
        return place >= 0 && place < BASES.length;
    }

    private static boolean isKind(int kind) {
        return kind >= 0 && kind < CLASSES;
    }

    private static long mix(long hash, int told) {
        return 31 * hash + told;
    }

    private boolean hasForm(int shelf) {
        return isShelf(shelf) && shelves[shelf].rank > 0;
    }

    private boolean hasTerm(int shelf, int term) {
        return isShelf(shelf) && term >= 0 && term < shelves[shelf].rank;
    }

    /** A STEP: what was made as draft comes to a SHELF, and what was there is kept for undo(). */
    private void shelveDraft(int shelf) {
        if (!isShelf(shelf)) {
            return;
        }
        draft.settle(sum);
        steps.keep(shelf, shelves[shelf]);
        shelves[shelf].copy(draft);
    }

    /** A FORM less a NUMBER times a square: it comes to nothing where the FORM MEETS the NUMBER. */
    private void startAgainst(Form form, int number) {
        sum.start();
        sum.addAll(form);
        sum.add(Numbers.kindOf(number) ^ MINUS_ONE);
    }

    /** The bits of the PLACES at which two FORMS are not LIKE. */
    private int unlikeBits(Form one, Form other) {
        if (one.rank != other.rank) {
            return ALL_PLACES;
        }
        int real = one.countAbove() == other.countAbove() ? 0 : REAL_BIT;
        int primes = one.hasse ^ other.hasse | sum.unsquareBits(one.det() ^ other.det());
        return real | primes & ~REAL_BIT;
    }

    private int leastLike(int shelf) {
        for (int other = 0; other < shelf && shelf < SHELVES; other++) {
            if (hasForm(other) && shelves[other].isLike(shelves[shelf])) {
                return other;
            }
        }
        return shelf;
    }

    private int countForms() {
        int forms = 0;
        for (int shelf = 0; shelf < SHELVES; shelf++) {
            forms += hasForm(shelf) ? 1 : 0;
        }
        return forms;
    }

    private int countTerms() {
        int terms = 0;
        for (int shelf = 0; shelf < SHELVES; shelf++) {
            terms += shelves[shelf].rank;
        }
        return terms;
    }

    /** LIKE parts the FORMS into heaps, so one of each heap, the first, is the most that can be. */
    private int countUnlike() {
        int heaps = 0;
        for (int shelf = 0; shelf < SHELVES; shelf++) {
            heaps += hasForm(shelf) && leastLike(shelf) == shelf ? 1 : 0;
        }
        return heaps;
    }

    /** Whole numbers, their CLASSES and the COREs of these. */
    private static final class Numbers {
        /** No int has more factors than this. */
        private static final int MOST_FACTORS = 31;
        /** The top bit of a root whose square is still an int. */
        private static final int TOP_ROOT_BIT = 14;

        static int coreOf(int kind) {
            int product = 1;
            for (int place = 0; place < BASES.length; place++) {
                if ((kind >> place & 1) == 1) {
                    product *= BASES[place];
                }
            }
            return product;
        }

        /** The CLASS of a whole number that is not 0. */
        static int kindOf(int whole) {
            int kind = whole < 0 ? REAL_BIT : 0;
            int left = whole;
            for (int place = 1; place < BASES.length; place++) {
                int prime = BASES[place];
                for (int k = 0; k < MOST_FACTORS && left != 0 && left % prime == 0; k++) {
                    left /= prime;
                    kind ^= 1 << place;
                }
            }
            return kind;
        }

        /** What is left of a whole number, without its sign, as the PRIMES are taken out of it. */
        static int roughPart(int whole) {
            int left = Math.abs(whole);
            for (int place = 1; place < BASES.length; place++) {
                int prime = BASES[place];
                for (int k = 0; k < MOST_FACTORS && left != 0 && left % prime == 0; k++) {
                    left /= prime;
                }
            }
            return left;
        }

        static boolean isNumber(int number) {
            return number >= -MOST_OF_NUMBER && number <= MOST_OF_NUMBER && roughPart(number) == 1;
        }

        /** The PRIMES make no trouble here: what is odd of them is in the CORE, so the rest decides. */
        static boolean isSquareTimesCore(int whole) {
            int rough = roughPart(whole);
            int root = rootOf(rough);
            return root * root == rough;
        }

        /** The greatest whole number whose square is not above the given one (below 2 to the 30). */
        static int rootOf(int whole) {
            int root = 0;
            for (int bit = TOP_ROOT_BIT; bit >= 0; bit--) {
                int more = root | 1 << bit;
                if (more * more <= whole) {
                    root = more;
                }
            }
            return root;
        }

        /** The greatest number that goes into both. */
        static int commonPart(int one, int other) {
            int great = Math.abs(one);
            int small = Math.abs(other);
            for (int k = 0; k < 64 && small != 0; k++) {
                int rest = great % small;
                great = small;
                small = rest;
            }
            return great;
        }
    }

    /** THE PAGE. */
    private static final class Page {
        private static final int MOST_LETTERS = 18;

        private final int[] codes = new int[MOST_LETTERS];
        int length;

        boolean write(int code) {
            if (length < 0 || length >= MOST_LETTERS) {
                return false;
            }
            codes[length] = code;
            length++;
            return true;
        }

        int codeAt(int place) {
            return place >= 0 && place < length && place < MOST_LETTERS ? codes[place] : 0;
        }

        boolean endsInDigit() {
            return isDigit(codeAt(length - 1));
        }

        /**
         * Reads TERMS as long as a FORM can go on so, and tells the place of the first letter that
         * none has there, or how many letters there are.
         */
        int readInto(Form form) {
            form.empty();
            int size = 0;
            boolean minus = false;
            for (int place = 0; place < length; place++) {
                int code = codeAt(place);
                if (isDigit(code) && goesOn(size, code)) {
                    size = 10 * size + code - '0';
                } else if (code == '-' && size == 0 && !minus) {
                    minus = true;
                } else if (code == ',' && size != 0 && form.rank < MOST_TERMS - 1) {
                    form.add(Numbers.kindOf(minus ? -size : size));
                    size = 0;
                    minus = false;
                } else {
                    return place;
                }
            }
            if (size != 0) {
                form.add(Numbers.kindOf(minus ? -size : size));
            }
            return length;
        }

        private static boolean isDigit(int code) {
            return code >= '0' && code <= '9';
        }

        /** A first digit may be any but 0; a third one, and a second one that makes no NUMBER, no. */
        private static boolean goesOn(int size, int code) {
            return Numbers.isNumber(10 * size + code - '0');
        }
    }

    /** A FORM; one of RANK 0 stands for none. */
    private static final class Form {
        private final int[] terms = new int[MOST_TERMS];
        int rank;
        /** HASSE and BARS are dear and often asked for, so they are kept with the TERMS. */
        int hasse;
        int bars;

        void empty() {
            rank = 0;
            hasse = 0;
            bars = 0;
        }

        void add(int kind) {
            if (rank >= 0 && rank < MOST_TERMS) {
                terms[rank] = kind;
                rank++;
            }
        }

        /** All TERMS of another FORM, each multiplied by a CLASS. */
        void addTimes(Form other, int kind) {
            for (int term = 0; term < other.rank; term++) {
                add(other.kindAt(term) ^ kind);
            }
        }

        void change(int term, int kind) {
            if (term >= 0 && term < rank && term < MOST_TERMS) {
                terms[term] = kind;
            }
        }

        int kindAt(int term) {
            return term >= 0 && term < rank && term < MOST_TERMS ? terms[term] : 0;
        }

        void copy(Form other) {
            for (int term = 0; term < MOST_TERMS; term++) {
                terms[term] = other.terms[term];
            }
            rank = other.rank;
            hasse = other.hasse;
            bars = other.bars;
        }

        /** To be called when the TERMS are as they are to stay. */
        void settle(Sum sum) {
            hasse = 0;
            for (int term = 1; term < rank; term++) {
                for (int ahead = 0; ahead < term; ahead++) {
                    hasse ^= sum.symbolBits(kindAt(ahead), kindAt(term));
                }
            }
            sum.start();
            sum.addAll(this);
            bars = sum.bars();
        }

        int countAbove() {
            int above = 0;
            for (int term = 0; term < rank; term++) {
                above += (kindAt(term) & REAL_BIT) == 0 ? 1 : 0;
            }
            return above;
        }

        int det() {
            int product = 0;
            for (int term = 0; term < rank; term++) {
                product ^= kindAt(term);
            }
            return product;
        }

        /**
         * LIKE at all PLACES. Unlike DETs can't be: a PRIME in one of them alone is no SQUARE there,
         * and -1 is none at 3; and HASSE at the REAL one goes with ABOVE.
         */
        boolean isLike(Form other) {
            return rank == other.rank && hasse == other.hasse && det() == other.det()
                    && countAbove() == other.countAbove();
        }

        int planes() {
            if (bars != 0) {
                return 0;
            }
            return rank == MOST_TERMS && det() == 0 ? 2 : 1;
        }

        int restDet() {
            return planes() == 1 ? det() ^ MINUS_ONE : det();
        }

        int restHasse(Sum sum) {
            int planes = planes();
            if (planes == 0) {
                return hasse;
            }
            return rank == 2 * planes ? 0 : hasse ^ sum.symbolBits(MINUS_ONE, restDet());
        }
    }

    /**
     * A sum of squares, each times a CORE. SYMBOL and SQUARE are asked of it too: A X X + B Y Y - Z Z
     * and A X X - Z Z come to nothing at just the PLACES where these say yes.
     */
    private static final class Sum {
        /** A FORM and one TERM more. */
        private static final int MOST_CORES = MOST_TERMS + 1;
        private static final int FULL_MASK = 0xFFFF;

        final int[] cores = new int[MOST_CORES];
        int size;

        void start() {
            size = 0;
        }

        void add(int kind) {
            if (size >= 0 && size < MOST_CORES) {
                cores[size] = Numbers.coreOf(kind);
                size++;
            }
        }

        void addAll(Form form) {
            for (int term = 0; term < form.rank; term++) {
                add(form.kindAt(term));
            }
        }

        /** The bits of the PLACES at which the SYMBOL of two CLASSES is -1. */
        int symbolBits(int one, int other) {
            start();
            add(one);
            add(other);
            add(MINUS_ONE);
            return bars();
        }

        /** The bits of the PLACES at which a CLASS is not SQUARE. */
        int unsquareBits(int kind) {
            start();
            add(kind);
            add(MINUS_ONE);
            return bars();
        }

        /** The bits of the PLACES at which the sum does not VANISH. */
        int bars() {
            int bits = vanishesAtReal() ? 0 : REAL_BIT;
            bits |= vanishesAtTwo() ? 0 : 2;
            for (int place = 2; place < BASES.length; place++) {
                bits |= partVanishes(place, false) || partVanishes(place, true) ? 0 : 1 << place;
            }
            return bits;
        }

        private boolean vanishesAtReal() {
            boolean above = false;
            boolean below = false;
            for (int term = 0; term < size && term < MOST_CORES; term++) {
                above |= cores[term] > 0;
                below |= cores[term] < 0;
            }
            return above && below;
        }

        /**
         * Sums by 16 are bits of a mask. By 16 an even number has the square 0 or 4, an odd one 1 or
         * 9; so two masks do: the sums of even numbers alone, and those with an odd one among them.
         */
        private boolean vanishesAtTwo() {
            int even = 1;
            int odd = 0;
            for (int term = 0; term < size && term < MOST_CORES; term++) {
                int core = cores[term];
                int both = even | odd;
                odd = odd | turned(odd, 4 * core) | turned(both, core) | turned(both, 9 * core);
                even = even | turned(even, 4 * core);
            }
            return (odd & 1) == 1;
        }

        private static int turned(int mask, int by) {
            int steps = by & 15;
            return (mask << steps | mask >> 16 - steps) & FULL_MASK;
        }

        /**
         * A sum by PRIME times PRIME comes to nothing if its part without the PRIME does by the
         * PRIME, or else the part with it, the PRIME taken out; and such a part does from three TERMS
         * on, or by two, if their product, turned below 0, is a square by the PRIME.
         */
        private boolean partVanishes(int place, boolean with) {
            if (place < 2 || place >= BASES.length || place >= SQUARE_RESTS.length) {
                return false;
            }
            int prime = BASES[place];
            int terms = 0;
            int product = 1;
            for (int term = 0; term < size && term < MOST_CORES; term++) {
                int core = cores[term];
                boolean inPart = with ? core % prime == 0 : core % prime != 0;
                if (inPart) {
                    terms++;
                    product = product * (with ? core / prime : core) % prime;
                }
            }
            int rest = (prime - product) % prime;
            return terms > 2 || terms == 2 && (SQUARE_RESTS[place] >> rest & 1) == 1;
        }
    }

    /** ROW and WAY: the least row of numbers by which a sum comes to nothing. */
    private static final class LeastRow {
        private final Sum sum;
        private final int[] numbers = new int[Sum.MOST_CORES];
        private final int[] best = new int[Sum.MOST_CORES];
        /** No number of a row that would still be better is above this. */
        private int bound;
        private boolean lastNotZero;
        private boolean found;

        LeastRow(Sum sum) {
            this.sum = sum;
        }

        boolean find(int most, boolean needsLast) {
            bound = most;
            lastNotZero = needsLast;
            found = false;
            // Where there are BARS no row can be, and the search would be long.
            if (sum.size > 0 && sum.bars() == 0) {
                seek(0, 0, 0);
            }
            return found;
        }

        int numberAt(int term) {
            return term >= 0 && term < best.length ? best[term] : 0;
        }

        /** Goes through the rows in order; what is found lowers the bound, so only less is taken then. */
        private void seek(int term, int value, int greatest) {
            if (term < 0 || term >= Sum.MOST_CORES) {
                return;
            }
            if (term >= sum.size - 1) {
                finish(term, value, greatest);
                return;
            }
            for (int number = 0; number <= MOST_OF_ROW && number <= bound; number++) {
                numbers[term] = number;
                seek(term + 1, value + sum.cores[term] * number * number, Math.max(greatest, number));
            }
        }

        /** The last number need not be sought: the others leave one at most. */
        private void finish(int term, int value, int greatest) {
            int core = sum.cores[term];
            if (core == 0 || value % core != 0) {
                return;
            }
            int square = -(value / core);
            if (square < 0 || square > bound * bound) {
                return;
            }
            int number = Numbers.rootOf(square);
            int most = Math.max(greatest, number);
            if (number * number != square || most == 0 || most > bound || lastNotZero && number == 0) {
                return;
            }
            numbers[term] = number;
            System.arraycopy(numbers, 0, best, 0, best.length);
            bound = most - 1;
            found = true;
        }
    }

    /** The STEPS that are kept: what lay on a SHELF ahead of each, in a ring. */
    private static final class Steps {
        private static final int MOST_KEPT = 12;

        private final int[] shelfOf = new int[MOST_KEPT];
        private final Form[] before = new Form[MOST_KEPT];
        private int next;
        int kept;
        int done;
        int undone;

        Steps() {
            for (int step = 0; step < MOST_KEPT; step++) {
                before[step] = new Form();
            }
        }

        void keep(int shelf, Form form) {
            int step = Math.floorMod(next, MOST_KEPT);
            shelfOf[step] = shelf;
            before[step].copy(form);
            next = (step + 1) % MOST_KEPT;
            kept = Math.min(kept + 1, MOST_KEPT);
            done++;
        }

        /** The SHELF of the latest STEP; what lay there goes into the given FORM. */
        int takeBack(Form into) {
            if (kept <= 0) {
                return NONE;
            }
            int step = Math.floorMod(next - 1, MOST_KEPT);
            into.copy(before[step]);
            next = step;
            kept--;
            undone++;
            return shelfOf[step];
        }
    }

    /** The PAIRS that are open. */
    private static final class Pairs {
        /** 3 A A is not above N, so A is at most 7, and there are 2 A numbers for B. */
        private static final int MOST_PAIRS = 56;
        private static final int WORD = 64;
        private static final int WORDS = 3;

        final int[] first = new int[MOST_PAIRS];
        final int[] middle = new int[MOST_PAIRS];
        final int[] last = new int[MOST_PAIRS];
        final int[] genus = new int[MOST_PAIRS];
        /** The rests that each PAIR MEETS, as bits. */
        private final long[] rests = new long[MOST_PAIRS * WORDS];
        /** For each rest by N, whether no number but 1 goes into both. */
        private final boolean[] apart = new boolean[MOST_N];
        int n;
        int size;

        boolean has(int pair) {
            return pair >= 0 && pair < size && pair < MOST_PAIRS;
        }

        void open(int number) {
            if (number < LEAST_N || number > MOST_N) {
                return;
            }
            n = number;
            size = 0;
            for (int a = 1; a <= n && 3 * a * a <= n; a++) {
                for (int b = 1 - a; b <= a; b++) {
                    if ((n + b * b) % (4 * a) == 0) {
                        addIfReduced(a, b, (n + b * b) / (4 * a));
                    }
                }
            }
            for (int rest = 0; rest < n; rest++) {
                apart[rest] = Numbers.commonPart(rest, n) == 1;
            }
            for (int pair = 0; pair < size && pair < MOST_PAIRS; pair++) {
                findRests(pair);
                genus[pair] = leastSame(pair);
            }
        }

        boolean isMet(int pair, int rest) {
            if (!has(pair) || rest < 0 || rest >= n) {
                return false;
            }
            return (rests[pair * WORDS + rest / WORD] >> rest % WORD & 1) == 1;
        }

        int countMet(int pair) {
            int met = 0;
            for (int word = 0; word < WORDS && has(pair); word++) {
                met += Long.bitCount(rests[pair * WORDS + word]);
            }
            return met;
        }

        int countGenera() {
            int genera = 0;
            for (int pair = 0; pair < size && pair < MOST_PAIRS; pair++) {
                genera += genus[pair] == pair ? 1 : 0;
            }
            return genera;
        }

        private void addIfReduced(int a, int b, int c) {
            boolean inOrder = a < c || a == c && b >= 0;
            int common = Numbers.commonPart(Numbers.commonPart(a, b), c);
            if (inOrder && common == 1 && size < MOST_PAIRS) {
                first[size] = a;
                middle[size] = b;
                last[size] = c;
                size++;
            }
        }

        /**
         * Any Y is, by N, a number T apart from N times one that goes into N, and X is T times
         * another one; so it is enough to take Y of those that go into N, and with each rest that
         * comes also its multiples by all T T.
         */
        private void findRests(int pair) {
            for (int word = 0; word < WORDS && has(pair); word++) {
                rests[pair * WORDS + word] = 0;
            }
            for (int y = 1; y <= n && has(pair); y++) {
                if (n % y != 0) {
                    continue;
                }
                for (int x = 0; x < n; x++) {
                    int value = first[pair] * x * x + middle[pair] * x * y + last[pair] * y * y;
                    int rest = Math.floorMod(value, n);
                    if (apart[rest] && !isMet(pair, rest)) {
                        addWithSquares(pair, rest);
                    }
                }
            }
        }

        private void addWithSquares(int pair, int rest) {
            for (int t = 1; t < n && has(pair); t++) {
                if (apart[t]) {
                    int other = rest * t * t % n;
                    rests[pair * WORDS + other / WORD] |= 1L << other % WORD;
                }
            }
        }

        private int leastSame(int pair) {
            for (int other = 0; other < pair; other++) {
                if (meetSame(other, pair)) {
                    return other;
                }
            }
            return pair;
        }

        private boolean meetSame(int one, int other) {
            for (int word = 0; word < WORDS && has(one) && has(other); word++) {
                if (rests[one * WORDS + word] != rests[other * WORDS + word]) {
                    return false;
                }
            }
            return true;
        }
    }
}
