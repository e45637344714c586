/** A stick of notches, breakers that break it, and what is asked of the pieces; README.md says how to use it. */
public final class BrokenThree {
    public static final int NONE = -1, BAD = -2, STATE = -3, FULL = -4;
    public static final long NO = Long.MIN_VALUE;

    private static final int ABSENT = -5, OTHER_KIND = -6, FAULT_BASE = -10;

    private static final int BREAKER = 0, LONGEST = 1, SHORTEST = 2, LEFT = 3;
    private static final int HALVING = 4, THIN = 5, TOLD = 6;
    private static final int KINDS = 7;
    /** The kind above each kind. */
    private static final int[] ABOVE = {-1, 0, 0, 0, 1, 2, 3};

    private static final int MOST_BREAKERS = 6, MOST_VALUE = 9, ROW_SIZE = 4;
    private static final int MOST_SIGNS = 100, LAST_SIGN = 127, MOST_YARDS = 5, MOST_CLAUSES = 10, MOST_OPEN = 5;
    private static final int LEAST_LENGTH = 2, MOST_LENGTH = 17, LEAST_CUTS = 1, MOST_CUTS = 3;
    private static final int MOST_NUMBER = 99;
    private static final int MOST_STICKS = 10, MOST_SEEN = 4, MOST_BOOKED = 8, BOOKED_SIZE = 4;
    private static final int MOST_STAIR = 999, LEAST_SAWN = 3, MOST_SAWN = 6;
    private static final int LEAST_RING = 3, MOST_RING = 10, MOST_ARCS = 6, MOST_UNTIL = 16;
    private static final int MOST_TRACED = 20;

    /** 360360 is a multiple of 1 .. 15: the second break has 15 ways at most, the third 14, so shares stay whole. */
    private static final long UNIT = 360360L * 360360L;
    /** A multiple of 1 .. 16, which are all numbers of ways that a first break can have. */
    private static final long FIRST_WAYS = 720720L;

    private final State now;
    private final State kept;
    private boolean hasImage;
    private final Reader reader;
    private final Chooser chooser;
    private final Ends ends;
    private final Orders follower;
    private final Shape pieces;
    private final Ring ring;
    private final Triangles sticks;
    private final Acts acts;

    public BrokenThree() {
        now = new State();
        kept = new State();
        hasImage = false;
        reader = new Reader(now);
        chooser = new Chooser(now);
        pieces = new Shape();
        ends = new Ends(now, chooser, pieces);
        follower = new Orders(now, chooser);
        ring = new Ring();
        sticks = new Triangles();
        acts = new Acts();
    }

    // ---- yards, breakers

    public int feed(int sign) {
        if (sign < 0 || sign > LAST_SIGN) {
            return BAD;
        }
        if (now.signs >= MOST_SIGNS) {
            return FULL;
        }
        put(now.tape, now.signs, sign);
        now.signs++;
        return now.signs;
    }

    public int yard() {
        if (now.yards >= MOST_YARDS) {
            return FULL;
        }
        int fault = reader.faultInTape();
        now.signs = 0;
        if (fault >= 0) {
            return FAULT_BASE - fault;
        }
        now.yard.copy(reader.draft);
        now.broken = 0;
        now.spent = 0;
        now.yards++;
        return now.yards - 1;
    }

    public int breaker(int kind, int v) {
        if (kind < 0 || kind >= KINDS) {
            return NONE;
        }
        if (v < 0 || v > MOST_VALUE) {
            return BAD;
        }
        if (now.breakers >= MOST_BREAKERS) {
            return FULL;
        }
        int number = now.breakers;
        put(now.kinds, number, kind);
        put(now.values, number, v);
        for (int k = 0; k < ROW_SIZE; k++) {
            put(now.rows, number * ROW_SIZE + k, 0);
        }
        now.breakers++;
        return number;
    }

    public int of(int breaker, int what) {
        if (!isBreaker(breaker)) {
            return NONE;
        }
        if (what == 0) {
            return at(now.kinds, breaker);
        }
        if (what == 1) {
            return at(now.values, breaker);
        }
        if (what != 2 && what < 10) {
            return NONE;
        }
        int may = chooser.mayBreak(breaker, now.broken);
        return what == 2 ? Integer.bitCount(may) : placeOf(may, what - 10);
    }

    public int row(int breaker, int k, int n) {
        if (!isBreaker(breaker) || k < 0 || k >= ROW_SIZE) {
            return NONE;
        }
        if (n < 0 || n > MOST_VALUE) {
            return BAD;
        }
        if (at(now.kinds, breaker) != TOLD) {
            return STATE;
        }
        int was = at(now.rows, breaker * ROW_SIZE + k);
        put(now.rows, breaker * ROW_SIZE + k, n);
        return was;
    }

    public int told(int what) {
        switch (what) {
            case 0: return now.yard.length;
            case 1: return now.yard.cuts;
            case 2: return Integer.bitCount(now.broken) + 1;
            case 3: return now.spent;
            default: return NONE;
        }
    }

    public int piece(int k) {
        int from = 0;
        int number = 0;
        for (int place = 1; place <= now.yard.length; place++) {
            if (place == now.yard.length || hasBit(now.broken, place)) {
                if (number == k) {
                    return place - from;
                }
                number++;
                from = place;
            }
        }
        return NONE;
    }

    public int breaks(int breaker, int draw) {
        if (!isBreaker(breaker)) {
            return NONE;
        }
        if (draw < 0 || draw > MOST_NUMBER) {
            return BAD;
        }
        int may = chooser.mayBreak(breaker, now.broken);
        int ways = Integer.bitCount(may);
        if (ways == 0) {
            return STATE;
        }
        int place = placeOf(may, draw % ways);
        now.spent += chooser.priceOf(breaker, now.broken, 1 << place);
        now.broken |= 1 << place;
        return place;
    }

    public int whole() {
        int were = Integer.bitCount(now.broken) + 1;
        now.broken = 0;
        now.spent = 0;
        return were;
    }

    public int shape(int what) {
        pieces.lay(now.broken, now.yard.length);
        switch (what) {
            case 0: return pieces.closes() ? 1 : 0;
            case 1: return pieces.isSquare() ? 1 : 0;
            case 2: return pieces.isBlunt() ? 1 : 0;
            case 3: return pieces.longest();
            case 4: return pieces.lengthAt(0);
            default: return NONE;
        }
    }

    // ---- by breakers; part 0 above, 1 below the line

    public long likely(int breaker, int what, int n, int part) {
        if (!isBreaker(breaker) || what < 0 || what > 6 || n < 0 || n > MOST_NUMBER || !isPart(part)) {
            return NO;
        }
        ends.spread(breaker);
        return partOf(ends.weightOf(what, n), ends.total, part);
    }

    public long mean(int breaker, int k, int part) {
        if (!isBreaker(breaker) || k < 0 || k > MOST_CUTS || !isPart(part)) {
            return NO;
        }
        ends.spread(breaker);
        return partOf(ends.lengthsAt(k), ends.total, part);
    }

    public long costs(int breaker, int part) {
        if (!isBreaker(breaker) || !isPart(part)) {
            return NO;
        }
        ends.spread(breaker);
        return partOf(ends.spent, ends.total, part);
    }

    /**
     * With f(n) pieces in the mean of a length n above m, (n - 1) f(n) is twice the sum of all f below n, so that
     * n f(n + 1) = (n + 1) f(n); and f(m + 1) = 2: f(n) is 2 n / (m + 1).
     */
    public long until(int m, int part) {
        if (m < 1 || m > MOST_UNTIL || !isPart(part)) {
            return NO;
        }
        return now.yard.length > m ? partOf(2L * now.yard.length, m + 1L, part) : 1L;
    }

    public long hidden(int n, int a, int k, int part) {
        if (n < LEAST_RING || n > MOST_RING || a < 1 || a > n || k < 1 || k > MOST_ARCS || !isPart(part)) {
            return NO;
        }
        long all = 1;
        for (int arc = 0; arc < k; arc++) {
            all *= n;
        }
        return partOf(ring.coverings(n, a, k), all, part);
    }

    // ---- boxes, saws

    public int box(int length) {
        if (length == -1) {
            now.sticks = 0;
            return 0;
        }
        if (length < 1 || length > MOST_NUMBER) {
            return BAD;
        }
        if (now.sticks >= MOST_STICKS) {
            return FULL;
        }
        put(now.box, now.sticks, length);
        now.sticks++;
        return now.sticks;
    }

    public int triangles() {
        return Triangles.closingTriples(now.box, now.sticks);
    }

    public long drawn(int part) {
        int n = now.sticks;
        if (n < 3 || !isPart(part)) {
            return NO;
        }
        return partOf(Triangles.closingTriples(now.box, n), n * (n - 1) * (n - 2) / 6, part);
    }

    public int none(int what) {
        if (what != 0 && what != 1) {
            return NONE;
        }
        int set = sticks.mostUnclosing(now.box, now.sticks);
        return what == 0 ? Integer.bitCount(set) : set;
    }

    /** A row without a triangle grows slowest if each length is the sum of the two below it. */
    public int stair(int m) {
        if (m < 1 || m > MOST_STAIR) {
            return BAD;
        }
        int most = 0;
        int length = 1;
        int next = 2;
        for (int step = 0; step < MOST_STAIR && length <= m; step++) {
            most++;
            int sum = length + next;
            length = next;
            next = sum;
        }
        return most;
    }

    public int sawn(int p, int k) {
        if (k < -1 || k >= MOST_SAWN) {
            return NONE;
        }
        if (p < LEAST_SAWN || p > MOST_SAWN) {
            return BAD;
        }
        if (now.yard.length < p || k >= p) {
            return ABSENT;
        }
        sticks.sawUp(now.yard.length, p);
        return k == -1 ? sticks.most : at(sticks.best, k);
    }

    // ---- rows told back

    public int see(int length) {
        if (length == -1) {
            now.seen = 0;
            return 0;
        }
        if (length < 1 || length > MOST_LENGTH) {
            return BAD;
        }
        if (now.seen >= MOST_SEEN) {
            return FULL;
        }
        put(now.sight, now.seen, length);
        now.seen++;
        return now.seen;
    }

    public int orders(int breaker) {
        if (!isBreaker(breaker)) {
            return NONE;
        }
        follower.follow(breaker, now.sight, now.seen);
        return follower.found;
    }

    public long chance(int breaker, int part) {
        if (!isBreaker(breaker) || !isPart(part)) {
            return NO;
        }
        follower.follow(breaker, now.sight, now.seen);
        return partOf(follower.weight, UNIT * follower.firstWays, part);
    }

    public int lost(int breaker) {
        if (!isBreaker(breaker)) {
            return NONE;
        }
        int lack = now.yard.length - sumOf(now.sight, now.seen);
        if (lack <= 0 || now.seen >= MOST_SEEN) {
            return 0;
        }
        int places = 0;
        for (int place = 0; place <= now.seen; place++) {
            follower.follow(breaker, follower.longerRow(place, lack), now.seen + 1);
            if (follower.found > 0) {
                places |= 1 << place;
            }
        }
        return places;
    }

    public int who() {
        int bits = 0;
        for (int breaker = 0; breaker < now.breakers; breaker++) {
            follower.follow(breaker, now.sight, now.seen);
            if (follower.found > 0) {
                bits |= 1 << breaker;
            }
        }
        return bits;
    }

    public int likeliest() {
        int likeliest = ABSENT;
        long most = 0;
        for (int breaker = 0; breaker < now.breakers; breaker++) {
            follower.follow(breaker, now.sight, now.seen);
            long chance = follower.comparableWeight();
            if (chance > most) {
                most = chance;
                likeliest = breaker;
            }
        }
        return likeliest;
    }

    public int book(int one, int two, int three, boolean close) {
        if (one == -1) {
            now.booked = 0;
            return 0;
        }
        if (!isLength(one) || !isLength(two) || !isLength(three)) {
            return BAD;
        }
        if (now.booked >= MOST_BOOKED) {
            return FULL;
        }
        int start = now.booked * BOOKED_SIZE;
        put(now.book, start, one);
        put(now.book, start + 1, two);
        put(now.book, start + 2, three);
        put(now.book, start + 3, close ? 1 : 0);
        now.booked++;
        return now.booked;
    }

    public int looked() {
        for (int i = 0; i < now.booked; i++) {
            int start = i * BOOKED_SIZE;
            boolean closes =
                    Triangles.closing(at(now.book, start), at(now.book, start + 1), at(now.book, start + 2));
            if (closes != (at(now.book, start + 3) == 1)) {
                return i;
            }
        }
        return ABSENT;
    }

    // ---- acts, the image

    public int act(int breaker, int act, int x) {
        if (!isBreaker(breaker) || act < 0 || act > Acts.TELLS) {
            acts.ran = 0;
            return 0;
        }
        return acts.start(breaker, at(now.kinds, breaker), at(now.values, breaker), act, x);
    }

    public int trace(int i) {
        return i >= 0 && i < acts.ran && i < MOST_TRACED ? at(acts.bodies, i) : NONE;
    }

    public int as(int breaker, int k) {
        if (!isBreaker(breaker) || k < 0 || k >= KINDS) {
            return NONE;
        }
        int kind = at(now.kinds, breaker);
        for (int step = 0; step < KINDS && kind >= 0; step++) {
            if (kind == k) {
                return at(now.values, breaker);
            }
            kind = at(ABOVE, kind);
        }
        return OTHER_KIND;
    }

    public int image() {
        kept.copy(now);
        hasImage = true;
        return now.breakers;
    }

    public int undo() {
        if (!hasImage) {
            return STATE;
        }
        now.copy(kept);
        return now.breakers;
    }

    public int count(int what) {
        switch (what) {
            case 0: return now.breakers;
            case 1: return now.yards;
            case 2: return now.sticks;
            case 3: return now.seen;
            case 4: return now.booked;
            case 5: return now.signs;
            case 6: return acts.ran;
            default: return NONE;
        }
    }

    // ---- helpers of all

    private boolean isBreaker(int breaker) {
        return breaker >= 0 && breaker < now.breakers;
    }

    private static boolean isPart(int part) {
        return part == 0 || part == 1;
    }

    private static boolean isLength(int length) {
        return length >= 1 && length <= MOST_NUMBER;
    }

    /** The machine must never throw, so every row is read and written with its index looked at. */
    private static int at(int[] row, int i) {
        return i >= 0 && i < row.length ? row[i] : 0;
    }

    private static void put(int[] row, int i, int value) {
        if (i >= 0 && i < row.length) {
            row[i] = value;
        }
    }

    private static long longAt(long[] row, int i) {
        return i >= 0 && i < row.length ? row[i] : 0L;
    }

    private static void putLong(long[] row, int i, long value) {
        if (i >= 0 && i < row.length) {
            row[i] = value;
        }
    }

    private static void copyRow(int[] from, int[] to) {
        for (int i = 0; i < from.length && i < to.length; i++) {
            to[i] = from[i];
        }
    }

    private static int sumOf(int[] row, int size) {
        int sum = 0;
        for (int i = 0; i < size; i++) {
            sum += at(row, i);
        }
        return sum;
    }

    private static boolean hasBit(int bits, int place) {
        return (bits >> place & 1) == 1;
    }

    /** The place of the k-th bit from the lowest on. */
    private static int placeOf(int bits, int k) {
        int number = 0;
        for (int place = 0; place < MOST_LENGTH; place++) {
            if (hasBit(bits, place)) {
                if (number == k) {
                    return place;
                }
                number++;
            }
        }
        return NONE;
    }

    /** The part of a fraction (nothing of it below 0) in lowest terms. */
    private static long partOf(long above, long below, int part) {
        long divisor = above;
        long rest = below;
        for (int step = 0; step < 200 && rest != 0; step++) {
            long next = divisor % rest;
            divisor = rest;
            rest = next;
        }
        if (divisor == 0) {
            return NO;
        }
        return part == 0 ? above / divisor : below / divisor;
    }

    /** All that an image keeps. */
    private static final class State {
        private int breakers;
        private final int[] kinds = new int[MOST_BREAKERS];
        private final int[] values = new int[MOST_BREAKERS];
        private final int[] rows = new int[MOST_BREAKERS * ROW_SIZE];
        private int yards;
        private final Yard yard = new Yard();
        /** The notches broken, a bit each by its place. */
        private int broken;
        private int spent;
        private int signs;
        private final int[] tape = new int[MOST_SIGNS];
        private int sticks;
        private final int[] box = new int[MOST_STICKS];
        private int seen;
        private final int[] sight = new int[MOST_SEEN];
        private int booked;
        private final int[] book = new int[MOST_BOOKED * BOOKED_SIZE];

        private void copy(State other) {
            breakers = other.breakers;
            copyRow(other.kinds, kinds);
            copyRow(other.values, values);
            copyRow(other.rows, rows);
            yards = other.yards;
            yard.copy(other.yard);
            broken = other.broken;
            spent = other.spent;
            signs = other.signs;
            copyRow(other.tape, tape);
            sticks = other.sticks;
            copyRow(other.box, box);
            seen = other.seen;
            copyRow(other.sight, sight);
            booked = other.booked;
            copyRow(other.book, book);
        }
    }

    /** What a yard says; its rules are the hard and the price clauses, with E as code that works on a stack. */
    private static final class Yard {
        /** Codes from 0 on are tests: (letter * 3 + sign) * 100 + number. */
        private static final int NOT = -1, AND = -2, OR = -3;

        private int length = 12;
        private int cuts = 2;
        private int rules;
        private int codes;
        private final int[] isPrice = new int[MOST_CLAUSES];
        private final int[] numbers = new int[MOST_CLAUSES];
        private final int[] codeEnds = new int[MOST_CLAUSES];
        private final int[] code = new int[MOST_SIGNS];

        private void clear() {
            length = 12;
            cuts = 2;
            rules = 0;
            codes = 0;
        }

        private void copy(Yard other) {
            length = other.length;
            cuts = other.cuts;
            rules = other.rules;
            codes = other.codes;
            copyRow(other.isPrice, isPrice);
            copyRow(other.numbers, numbers);
            copyRow(other.codeEnds, codeEnds);
            copyRow(other.code, code);
        }

        private void addCode(int added) {
            put(code, codes, added);
            codes++;
        }

        /** The codes added since the last rule are the new one's. */
        private void addRule(boolean price, int number) {
            put(isPrice, rules, price ? 1 : 0);
            put(numbers, rules, number);
            put(codeEnds, rules, codes);
            rules++;
        }
    }

    /** Reads the tape into a yard; where it stops, no yard can go on. */
    private static final class Reader {
        private static final int END = -1;

        private final State now;
        private final Yard draft = new Yard();
        private int spot;
        /** The first letter of the clause's word, and the number behind the word. */
        private int word;
        private int wordNumber;

        private Reader(State now) {
            this.now = now;
        }

        /** The fault's place, or -1: the draft is the yard. */
        private int faultInTape() {
            spot = 0;
            draft.clear();
            for (int clause = 0; clause < MOST_CLAUSES; clause++) {
                boolean reads = readsHead() && (!hasRule() || takes(' ') && readsEither(0));
                if (!reads) {
                    return spot;
                }
                keepClause();
                if (spot >= now.signs) {
                    return -1;
                }
                if (clause == MOST_CLAUSES - 1 || !takes(';')) {
                    return spot;
                }
            }
            return spot;
        }

        /** The word of a clause, and its number. */
        private boolean readsHead() {
            word = sign();
            boolean reads;
            switch (word) {
                case 'l': reads = takes('l') && takes('o') && takes('n') && takes('g'); break;
                case 'c': reads = takes('c') && takes('u') && takes('t') && takes('s'); break;
                case 'h': reads = takes('h') && takes('a') && takes('r') && takes('d'); break;
                case 'p': reads = takes('p') && takes('r') && takes('i') && takes('c') && takes('e'); break;
                default: return false;
            }
            if (!reads || !takes(' ')) {
                return false;
            }
            wordNumber = number();
            return wordNumber >= 0;
        }

        private boolean hasRule() {
            return word == 'h' || word == 'p';
        }

        private void keepClause() {
            if (hasRule()) {
                draft.addRule(word == 'p', wordNumber);
            } else if (word == 'l') {
                draft.length = Math.max(LEAST_LENGTH, Math.min(MOST_LENGTH, wordNumber));
            } else {
                draft.cuts = Math.max(LEAST_CUTS, Math.min(MOST_CUTS, wordNumber));
            }
        }

        /** E, with so many of ! and ( open around it. */
        private boolean readsEither(int open) {
            if (!readsBoth(open)) {
                return false;
            }
            for (int i = 0; i < MOST_SIGNS && sign() == '|'; i++) {
                spot++;
                if (!readsBoth(open)) {
                    return false;
                }
                draft.addCode(Yard.OR);
            }
            return true;
        }

        private boolean readsBoth(int open) {
            if (!readsFactor(open)) {
                return false;
            }
            for (int i = 0; i < MOST_SIGNS && sign() == '&'; i++) {
                spot++;
                if (!readsFactor(open)) {
                    return false;
                }
                draft.addCode(Yard.AND);
            }
            return true;
        }

        private boolean readsFactor(int open) {
            int first = sign();
            if (first != '!' && first != '(') {
                return readsTest();
            }
            if (open >= MOST_OPEN) {
                return false;
            }
            spot++;
            if (first == '(') {
                return readsEither(open + 1) && takes(')');
            }
            if (!readsFactor(open + 1)) {
                return false;
            }
            draft.addCode(Yard.NOT);
            return true;
        }

        private boolean readsTest() {
            int letter;
            switch (sign()) {
                case 'x': letter = 0; break;
                case 'r': letter = 1; break;
                case 'l': letter = 2; break;
                case 'c': letter = 3; break;
                case 'k': letter = 4; break;
                default: return false;
            }
            spot++;
            int comparison;
            switch (sign()) {
                case '<': comparison = 0; break;
                case '=': comparison = 1; break;
                case '>': comparison = 2; break;
                default: return false;
            }
            spot++;
            int number = number();
            if (number < 0) {
                return false;
            }
            draft.addCode((letter * 3 + comparison) * 100 + number);
            return true;
        }

        /** One or two digits, the first of two no 0; -1: there is none. */
        private int number() {
            int first = sign() - '0';
            if (first < 0 || first > 9) {
                return -1;
            }
            spot++;
            int second = sign() - '0';
            if (first == 0 || second < 0 || second > 9) {
                return first;
            }
            spot++;
            return first * 10 + second;
        }

        private boolean takes(char wanted) {
            if (sign() != wanted) {
                return false;
            }
            spot++;
            return true;
        }

        private int sign() {
            return spot >= 0 && spot < now.signs && spot < now.tape.length ? now.tape[spot] : END;
        }
    }

    /** Looks at one piece as a breaker of a kind sees it; sets of notches are bits by their places. */
    private static final class Judge {
        private final Yard yard;
        private int from;
        private int to;
        private int cuts;
        private int kind;
        private final int[] stack = new int[MOST_SIGNS];

        private Judge(Yard yard) {
            this.yard = yard;
        }

        private void look(int pieceFrom, int pieceTo, int cutsMade, int kindOfBreaker) {
            from = pieceFrom;
            to = pieceTo;
            cuts = cutsMade;
            kind = kindOfBreaker;
        }

        private int freeNotches() {
            int free = innerNotches();
            for (int rule = 0; rule < yard.rules; rule++) {
                if (at(yard.isPrice, rule) == 0 && at(yard.numbers, rule) > 0) {
                    free &= ~holding(rule);
                }
            }
            return free;
        }

        /** What breaks at all these notches would cost, each by itself. */
        private int priceOf(int notches) {
            int price = 0;
            int inside = notches & innerNotches();
            for (int rule = 0; rule < yard.rules && inside != 0; rule++) {
                if (at(yard.isPrice, rule) == 1) {
                    price += at(yard.numbers, rule) * Integer.bitCount(holding(rule) & inside);
                }
            }
            return price;
        }

        private int innerNotches() {
            return (1 << to) - (1 << from + 1);
        }

        /** The inner notches of the piece at which the rule's E holds. */
        private int holding(int rule) {
            int end = at(yard.codeEnds, rule);
            int top = 0;
            for (int i = rule == 0 ? 0 : at(yard.codeEnds, rule - 1); i < end; i++) {
                int code = at(yard.code, i);
                if (code >= 0) {
                    put(stack, top, passing(code));
                    top++;
                } else if (code == Yard.NOT) {
                    put(stack, top - 1, ~at(stack, top - 1));
                } else {
                    top--;
                    int right = at(stack, top);
                    int left = at(stack, top - 1);
                    put(stack, top - 1, code == Yard.AND ? left & right : left | right);
                }
            }
            return at(stack, 0) & innerNotches();
        }

        private int passing(int test) {
            int number = test % 100;
            int comparison = test / 100 % 3;
            int letter = test / 300;
            int notches = 0;
            for (int place = from + 1; place < to; place++) {
                int value;
                switch (letter) {
                    case 0: value = place; break;
                    case 1: value = Math.min(place - from, to - place); break;
                    case 2: value = to - from; break;
                    case 3: value = cuts; break;
                    default: value = kind; break;
                }
                if (comparison == 0 ? value < number : comparison == 1 ? value == number : value > number) {
                    notches |= 1 << place;
                }
            }
            return notches;
        }
    }

    /** Says at which notches a breaker may break a stick that is broken at some already. */
    private static final class Chooser {
        private final State now;
        private final Judge judge;
        private int opens;
        private final int[] openFrom = new int[MOST_LENGTH];
        private final int[] openTo = new int[MOST_LENGTH];
        private final int[] openFree = new int[MOST_LENGTH];

        private Chooser(State now) {
            this.now = now;
            judge = new Judge(now.yard);
        }

        private int mayBreak(int breaker, int broken) {
            int kind = at(now.kinds, breaker);
            int cuts = Integer.bitCount(broken);
            int from = 0;
            int all = 0;
            opens = 0;
            for (int place = 1; place <= now.yard.length; place++) {
                if (place == now.yard.length || hasBit(broken, place)) {
                    judge.look(from, place, cuts, kind);
                    int free = judge.freeNotches();
                    if (free != 0) {
                        put(openFrom, opens, from);
                        put(openTo, opens, place);
                        put(openFree, opens, free);
                        opens++;
                    }
                    all |= free;
                    from = place;
                }
            }
            if (kind == BREAKER || opens == 0) {
                return all;
            }
            int chosen = chosenPiece(breaker, kind, cuts);
            return kind == HALVING ? farthest(chosen) : at(openFree, chosen);
        }

        /** The number of the chosen open piece; -1 (at which nothing is free): there is none. */
        private int chosenPiece(int breaker, int kind, int cuts) {
            switch (kind) {
                case LONGEST: case HALVING: return longestOpen();
                case SHORTEST: return shortestOpen(0);
                case THIN: return shortestOpen(at(now.values, breaker));
                case TOLD: return opens > 0 ? at(now.rows, breaker * ROW_SIZE + cuts % ROW_SIZE) % opens : -1;
                case LEFT: return 0;
                default: return -1;
            }
        }

        private int openLength(int piece) {
            return at(openTo, piece) - at(openFrom, piece);
        }

        private int longestOpen() {
            int longest = 0;
            for (int piece = 1; piece < opens; piece++) {
                if (openLength(piece) > openLength(longest)) {
                    longest = piece;
                }
            }
            return longest;
        }

        private int shortestOpen(int longerThan) {
            int shortest = -1;
            for (int piece = 0; piece < opens; piece++) {
                if (openLength(piece) > longerThan
                        && (shortest < 0 || openLength(piece) < openLength(shortest))) {
                    shortest = piece;
                }
            }
            return shortest;
        }

        private int farthest(int piece) {
            int from = at(openFrom, piece);
            int to = at(openTo, piece);
            int most = 0;
            int notches = 0;
            for (int place = from + 1; place < to; place++) {
                int far = Math.min(place - from, to - place);
                if (hasBit(at(openFree, piece), place) && far >= most) {
                    notches = far > most ? 1 << place : notches | 1 << place;
                    most = far;
                }
            }
            return notches;
        }

        /** What breaks at all these notches would cost, each by itself ahead of all others. */
        private int priceOf(int breaker, int broken, int notches) {
            int from = 0;
            int price = 0;
            for (int place = 1; place <= now.yard.length && now.yard.rules > 0; place++) {
                if (place == now.yard.length || hasBit(broken, place)) {
                    judge.look(from, place, Integer.bitCount(broken), at(now.kinds, breaker));
                    price += judge.priceOf(notches);
                    from = place;
                }
            }
            return price;
        }
    }

    /** The lengths of a stick's pieces, the shortest first. */
    private static final class Shape {
        private final int[] lengths = new int[MOST_LENGTH];
        private int size;
        private int total;

        private void lay(int broken, int length) {
            size = 0;
            total = length;
            int from = 0;
            for (int place = 1; place <= length; place++) {
                if (place == length || hasBit(broken, place)) {
                    add(place - from);
                    from = place;
                }
            }
        }

        private void add(int length) {
            int slot = size;
            for (int i = 0; i < size && slot > 0 && at(lengths, slot - 1) > length; i++) {
                put(lengths, slot, at(lengths, slot - 1));
                slot--;
            }
            put(lengths, slot, length);
            size++;
        }

        /** The k-th shortest; 0, if there are fewer. */
        private int lengthAt(int k) {
            return k < size ? at(lengths, k) : 0;
        }

        private int longest() {
            return at(lengths, size - 1);
        }

        private boolean closes() {
            return size >= 3 && longest() < total - longest();
        }

        private int lesserSquares() {
            return at(lengths, 0) * at(lengths, 0) + at(lengths, 1) * at(lengths, 1);
        }

        private boolean isSquare() {
            return size == 3 && lesserSquares() == longest() * longest();
        }

        private boolean isBlunt() {
            return size == 3 && closes() && lesserSquares() < longest() * longest();
        }

        private boolean isUnlike() {
            for (int i = 1; i < size; i++) {
                if (at(lengths, i) == at(lengths, i - 1)) {
                    return false;
                }
            }
            return true;
        }

        private boolean has(int length) {
            for (int i = 0; i < size; i++) {
                if (at(lengths, i) == length) {
                    return true;
                }
            }
            return false;
        }

        private boolean fits(int what, int n) {
            switch (what) {
                case 0: return closes();
                case 1: return isSquare();
                case 2: return isBlunt();
                case 3: return longest() >= n;
                case 4: return lengthAt(0) >= n;
                case 5: return isUnlike();
                default: return has(n);
            }
        }
    }

    /**
     * How the whole stick can end by a breaker. Every set of three broken notches or fewer has a slot, the smaller sets
     * first, so that equal sets reached in several orders are broken on only once.
     */
    private static final class Ends {
        private static final int SLOTS = 697;
        /** The first slot of the sets of so many notches. */
        private static final int[] BASE = {0, 1, 17, 137};

        private final State now;
        private final Chooser chooser;
        private final Shape pieces;
        private final int[] sets = new int[SLOTS];
        private final long[] weights = new long[SLOTS];
        private long total;
        private long spent;

        private Ends(State now, Chooser chooser, Shape pieces) {
            this.now = now;
            this.chooser = chooser;
            this.pieces = pieces;
            for (int x = 1; x < MOST_LENGTH; x++) {
                addSet(1 << x);
                for (int y = 1; y < x; y++) {
                    addSet(1 << x | 1 << y);
                    for (int z = 1; z < y; z++) {
                        addSet(1 << x | 1 << y | 1 << z);
                    }
                }
            }
        }

        private void addSet(int set) {
            put(sets, slotOf(set), set);
        }

        /** Sets of one size are counted through by the binomials of their places. */
        private static int slotOf(int set) {
            int rest = set;
            int slot = at(BASE, Integer.bitCount(set));
            for (int size = 1; size <= MOST_CUTS && rest != 0; size++) {
                int n = Integer.numberOfTrailingZeros(rest) - 1;
                slot += size == 1 ? n : size == 2 ? n * (n - 1) / 2 : n * (n - 1) * (n - 2) / 6;
                rest &= rest - 1;
            }
            return slot;
        }

        /** The weights then left are those of the ends, together the total. */
        private void spread(int breaker) {
            for (int slot = 0; slot < SLOTS; slot++) {
                putLong(weights, slot, 0);
            }
            spent = 0;
            total = UNIT * Math.max(1, Integer.bitCount(chooser.mayBreak(breaker, 0)));
            putLong(weights, 0, total);
            int open = at(BASE, now.yard.cuts);
            for (int slot = 0; slot < open; slot++) {
                long weight = longAt(weights, slot);
                int set = at(sets, slot);
                int may = weight > 0 ? chooser.mayBreak(breaker, set) : 0;
                int ways = Integer.bitCount(may);
                if (ways > 0) {
                    spent += weight / ways * chooser.priceOf(breaker, set, may);
                    putLong(weights, slot, 0);
                    shareOut(set, may, weight / ways);
                }
            }
        }

        private void shareOut(int set, int may, long share) {
            for (int place = 1; place < MOST_LENGTH; place++) {
                if (hasBit(may, place)) {
                    int slot = slotOf(set | 1 << place);
                    putLong(weights, slot, longAt(weights, slot) + share);
                }
            }
        }

        private long weightOf(int what, int n) {
            long sum = 0;
            for (int slot = 0; slot < SLOTS; slot++) {
                long weight = longAt(weights, slot);
                if (weight > 0) {
                    pieces.lay(at(sets, slot), now.yard.length);
                    sum += pieces.fits(what, n) ? weight : 0;
                }
            }
            return sum;
        }

        private long lengthsAt(int k) {
            long sum = 0;
            for (int slot = 0; slot < SLOTS; slot++) {
                long weight = longAt(weights, slot);
                if (weight > 0) {
                    pieces.lay(at(sets, slot), now.yard.length);
                    sum += weight * pieces.lengthAt(k);
                }
            }
            return sum;
        }
    }

    /** In which orders a row can have come by a breaker, and with what weight together. */
    private static final class Orders {
        private final State now;
        private final Chooser chooser;
        private final int[] longer = new int[MOST_SEEN];
        private int breaker;
        private int wanted;
        private int found;
        private long weight;
        /** All weights together are this often the unit. */
        private int firstWays = 1;

        private Orders(State now, Chooser chooser) {
            this.now = now;
            this.chooser = chooser;
        }

        /** The row told by hand, with a length put in ahead of the place. */
        private int[] longerRow(int place, int length) {
            for (int i = 0; i < longer.length; i++) {
                put(longer, i, i < place ? at(now.sight, i) : i == place ? length : at(now.sight, i - 1));
            }
            return longer;
        }

        private void follow(int ofBreaker, int[] row, int size) {
            breaker = ofBreaker;
            found = 0;
            weight = 0;
            firstWays = Math.max(1, Integer.bitCount(chooser.mayBreak(breaker, 0)));
            if (size >= 1 && size <= now.yard.cuts + 1 && sumOf(row, size) == now.yard.length) {
                wanted = 0;
                for (int i = 1; i < size; i++) {
                    wanted |= 1 << sumOf(row, i);
                }
                breakOn(0, UNIT * firstWays, 0);
            }
        }

        /** The weight, as if the first break had as many ways by every breaker. */
        private long comparableWeight() {
            return firstWays > 0 ? weight * (FIRST_WAYS / firstWays) : 0L;
        }

        private void breakOn(int broken, long share, int cuts) {
            int may = chooser.mayBreak(breaker, broken);
            int ways = Integer.bitCount(may);
            if (broken == wanted) {
                if (cuts == now.yard.cuts || ways == 0) {
                    found++;
                    weight += share;
                }
                return;
            }
            for (int place = 1; place < MOST_LENGTH && ways > 0 && cuts < MOST_CUTS; place++) {
                if (hasBit(may & wanted, place)) {
                    breakOn(broken | 1 << place, share / ways, cuts + 1);
                }
            }
        }
    }

    /** Arcs on a ring of places. */
    private static final class Ring {
        /** In how many ways the arcs can start at just so many told places, all of them. */
        private final long[] onto = new long[MOST_ARCS + 1];

        private long coverings(int n, int a, int k) {
            countOnto(k);
            long ways = 0;
            for (int starts = 1; starts < 1 << n; starts++) {
                int used = Integer.bitCount(starts);
                if (used <= k && covers(starts, n, a)) {
                    ways += longAt(onto, used);
                }
            }
            return ways;
        }

        /** Each further arc starts where another one does, or at the one place not used so far. */
        private void countOnto(int k) {
            for (int used = 0; used <= MOST_ARCS; used++) {
                putLong(onto, used, used == 0 ? 1 : 0);
            }
            for (int arc = 0; arc < k; arc++) {
                for (int used = MOST_ARCS; used >= 0; used--) {
                    putLong(onto, used, used * (longAt(onto, used) + longAt(onto, used - 1)));
                }
            }
        }

        private static boolean covers(int starts, int n, int a) {
            int all = (1 << n) - 1;
            int covered = starts;
            int turned = starts;
            for (int i = 1; i < a; i++) {
                turned = (turned << 1 | turned >> n - 1) & all;
                covered |= turned;
            }
            return covered == all;
        }
    }

    /** Sticks, and the triangles that three of them make. */
    private static final class Triangles {
        /** The numbers of the sticks, the shortest one's first. */
        private final int[] order = new int[MOST_STICKS];
        private final int[] tried = new int[MOST_SAWN];
        private final int[] best = new int[MOST_SAWN];
        private int most;

        private static boolean closing(int one, int two, int three) {
            return one + two > three && one + three > two && two + three > one;
        }

        private static int closingTriples(int[] lengths, int size) {
            int triples = 0;
            for (int i = 0; i < size; i++) {
                for (int j = i + 1; j < size; j++) {
                    for (int k = j + 1; k < size; k++) {
                        if (closing(at(lengths, i), at(lengths, j), at(lengths, k))) {
                            triples++;
                        }
                    }
                }
            }
            return triples;
        }

        /** The most sticks of which no three close, as bits. */
        private int mostUnclosing(int[] lengths, int size) {
            sort(lengths, size);
            int best = 0;
            for (int set = 1; set < 1 << size; set++) {
                if (Integer.bitCount(set) > Integer.bitCount(best) && isUnclosing(set, lengths, size)) {
                    best = set;
                }
            }
            return best;
        }

        private void sort(int[] lengths, int size) {
            for (int i = 0; i < size; i++) {
                int slot = i;
                for (int step = 0; step < i && slot > 0; step++) {
                    if (at(lengths, at(order, slot - 1)) > at(lengths, i)) {
                        put(order, slot, at(order, slot - 1));
                        slot--;
                    }
                }
                put(order, slot, i);
            }
        }

        /** If three close, so do the longest of them and the two just below it in the set. */
        private boolean isUnclosing(int set, int[] lengths, int size) {
            int below = 0;
            int under = 0;
            for (int i = 0; i < size; i++) {
                int stick = at(order, i);
                if (hasBit(set, stick)) {
                    int length = at(lengths, stick);
                    if (below + under > length) {
                        return false;
                    }
                    under = below;
                    below = length;
                }
            }
            return true;
        }

        /** The best pieces of a length, and how many triangles they make. */
        private void sawUp(int length, int p) {
            most = -1;
            sawOff(length, p, 0, length);
        }

        /** Lengths are tried from the least on, so that the first of several best stays. */
        private void sawOff(int left, int p, int k, int longest) {
            if (k >= p || k >= MOST_SAWN) {
                int triples = left == 0 ? closingTriples(tried, p) : -1;
                if (triples > most) {
                    most = triples;
                    copyRow(tried, best);
                }
                return;
            }
            for (int length = 1; length <= longest && length <= left; length++) {
                if (length * (p - k) >= left) {
                    put(tried, k, length);
                    sawOff(left - length, p, k + 1, length);
                }
            }
        }
    }

    /** The acts of one breaker, as bodies that call one another along the kinds. */
    private static final class Acts {
        private static final int BENDS = 0, BREAKS = 1, TELLS = 2;
        private static final int MOST_DEPTH = 40;
        /** The body of each act by kind, 0 where it has none. */
        private static final int[] BODIES = {
            1, 11, 0, 0, 0, 51, 0,
            2, 0, 21, 0, 0, 0, 61,
            3, 0, 0, 31, 41, 0, 0};

        private int ran;
        private final int[] bodies = new int[MOST_TRACED];
        private int number;
        private int kind;
        private int v;

        private int start(int breaker, int kindOfBreaker, int value, int act, int x) {
            number = breaker;
            kind = kindOfBreaker;
            v = value;
            ran = 0;
            return run(act, kind, x, 0);
        }

        private int run(int act, int fromKind, int x, int depth) {
            if (depth > MOST_DEPTH) {
                return 0;
            }
            int owner = ownerOf(act, fromKind);
            int above = at(ABOVE, owner);
            int body = at(BODIES, act * KINDS + owner);
            put(bodies, ran, body);
            ran++;
            switch (body) {
                case 1: return x + number;
                case 2: return run(BENDS, kind, x, depth + 1) - v;
                case 3: return run(BREAKS, kind, x, depth + 1) * 2;
                case 11: return run(BENDS, above, x * 3, depth + 1);
                case 21: return -run(BREAKS, above, x, depth + 1);
                case 31: return run(TELLS, above, x, depth + 1) ^ 7;
                case 41: return run(TELLS, above, x - 1, depth + 1) + run(BENDS, kind, 2, depth + 1);
                case 51: return run(BENDS, above, x, depth + 1) ^ number;
                case 61: return run(BREAKS, above, x, depth + 1) + v;
                default: return 0;
            }
        }

        /** The first kind from this one upwards that has a body for the act. */
        private static int ownerOf(int act, int fromKind) {
            int owner = fromKind;
            for (int step = 0; step < KINDS && owner > 0; step++) {
                if (at(BODIES, act * KINDS + owner) != 0) {
                    return owner;
                }
                owner = at(ABOVE, owner);
            }
            return 0;
        }
    }
}
