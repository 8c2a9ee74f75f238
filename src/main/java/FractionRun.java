/**
 * A whole number beside a row of fractions, by the first of which that keeps it whole it is multiplied, again and
 * again. The words in the comments are those of the document.
 */
public final class FractionRun {
    public static final int BAD = -1, NO = -2, FULL = -3, NONE = -4;

    private static final int[] PRIMES = {2, 3, 5, 7, 11, 13};
    private static final int PRIME_COUNT = 6;
    private static final int MOST_FRACTIONS = 8;
    private static final int MOST_LETTERS = 200;
    private static final int MOST_TOLD = 999;
    private static final int MOST_POWER = 999;
    private static final int MOST_STEPS = 999;
    private static final int MOST_STEPS_A_CALL = 50;
    private static final int MOST_TIMES = 9;
    private static final int MOST_UNDONE = 8;
    private static final int MOST_KEPT = 2;
    private static final int MOST_SEEN = 6;
    private static final int MOST_SEEN_STEP = 60;
    private static final int MOST_LOOK_STEP = 20;
    private static final int MOST_ORDERED = 5;
    private static final int ORDERS_OF_FIVE = 120;
    private static final int MOST_SOURCE = 40;
    private static final int MOST_TURNS = 4;
    private static final int MOST_DAY = 9999;
    private static final int MOST_DRAWS = 60;
    private static final int DRAW_MODULUS = 65521;

    /** How many steps what comes is followed. */
    private static final int AHEAD = 200;

    /** Stands for no fraction where a fraction is told as seen, or asked for by chance. */
    private static final int NOTHING = 8;

    private static final int KIND_COUNT = 6;
    private static final int ONCE = 1, SHY = 2, EAGER = 3, LAST = 4, END = 5;

    private static final String FIRST_TEXT = "f455,33,0;f11,13,0;f1,11,0;f3,7,0;f11,2,0;f1,3,0;s72;";

    private final Text text = new Text();
    private final Reader reader = new Reader();
    private final Fractions told = new Fractions();
    /** What a text is read into, and in which another kind is tried. */
    private final Fractions draft = new Fractions();

    private final State now = new State();
    private final State trial = new State();
    private final State goal = new State();

    private final Past past = new Past();
    private final Kept kept = new Kept();

    private final int[] seenStep = new int[MOST_SEEN];
    private final int[] seenFraction = new int[MOST_SEEN];
    private int seenCount;

    /** What is used in the n-th step from now on, by kind, at kind * (MOST_SEEN_STEP + 1) + n. */
    private final int[] uses = new int[KIND_COUNT * (MOST_SEEN_STEP + 1)];
    private final Course course = new Course();
    private final int[] bestOrder = new int[MOST_FRACTIONS];

    public FractionRun() {
        for (int i = 0; i < FIRST_TEXT.length(); i++) {
            text.add(FIRST_TEXT.charAt(i));
        }
        reader.read(text, told);
        text.clear();
        now.begin(told);
    }

    // ---- rows

    public int write(int letter) {
        if (letter < 32 || letter > 126) {
            return BAD;
        }
        if (text.size >= MOST_LETTERS) {
            return FULL;
        }
        text.add((char) letter);
        return text.size;
    }

    public int wipe() {
        int size = text.size;
        text.clear();
        return size;
    }

    public int fault() {
        return reader.read(text, draft);
    }

    public int lay() {
        if (reader.read(text, draft) != NONE || draft.size == 0) {
            return NO;
        }
        told.copyFrom(draft);
        now.begin(told);
        past.clear();
        kept.clear();
        seenCount = 0;
        return told.size;
    }

    public int fraction(int f, int what) {
        if (!isTold(f)) {
            return BAD;
        }
        switch (what) {
            case 0:
                return told.kinds[f];
            case 1:
                return told.uppers[f];
            case 2:
                return told.lowers[f];
            case 3:
                return now.placeOf(f);
            case 4:
                return now.wasUsed(f) ? 1 : 0;
            case 5:
                return now.placeOf(f) != NONE && now.isUsable(told, f) ? 1 : 0;
            default:
                return BAD;
        }
    }

    public int number(int prime) {
        return isPrime(prime) ? now.powers[prime] : BAD;
    }

    // ---- deeds

    public int steps(int n) {
        if (n < 1 || n > MOST_STEPS_A_CALL) {
            return BAD;
        }
        if (now.step >= MOST_STEPS || now.isAtRest(told)) {
            return NO;
        }
        past.push(now);
        return now.takeSteps(told, Math.min(n, MOST_STEPS - now.step));
    }

    public int multiply(int prime, int k) {
        if (!isPrime(prime) || k == 0 || k < -MOST_TIMES || k > MOST_TIMES) {
            return BAD;
        }
        int then = now.powers[prime] + k;
        if (then < 0 || then > MOST_POWER) {
            return NO;
        }
        past.push(now);
        now.multiplyBy(prime, k);
        return then;
    }

    public int move(int f, int place) {
        if (!isTold(f) || place < 0 || place >= now.rowSize) {
            return BAD;
        }
        int from = now.placeOf(f);
        if (from == NONE || from == place) {
            return NO;
        }
        past.push(now);
        now.shift(from, place);
        return from;
    }

    public int drop(int f) {
        if (!isTold(f)) {
            return BAD;
        }
        int place = now.placeOf(f);
        if (place == NONE || now.rowSize <= 1) {
            return NO;
        }
        past.push(now);
        now.leaveOut(place);
        return now.rowSize;
    }

    public int undo() {
        if (past.size == 0) {
            return NO;
        }
        past.pop(now);
        return past.size;
    }

    // ---- what comes

    public int power(int prime, int n) {
        if (!isPrime(prime) || n < 0 || n > AHEAD) {
            return BAD;
        }
        trial.copyFrom(now);
        trial.takeSteps(told, n);
        return trial.powers[prime];
    }

    public int used(int n) {
        if (n < 1 || n > AHEAD) {
            return BAD;
        }
        trial.copyFrom(now);
        trial.takeSteps(told, n - 1);
        return trial.nextFraction(told);
    }

    public int rests() {
        trial.copyFrom(now);
        return trial.stepsToRest(told, AHEAD);
    }

    public int round(int what) {
        if (what < 0 || what > 1) {
            return BAD;
        }
        trial.copyFrom(now);
        if (!course.follow(trial, told)) {
            return NONE;
        }
        int length = course.lengthOfRound();
        if (length == NONE) {
            return NONE;
        }
        return what == 1 ? length : course.beginOfRound(length);
    }

    public int greatest(int prime) {
        if (!isPrime(prime)) {
            return BAD;
        }
        trial.copyFrom(now);
        int most = trial.powers[prime];
        for (int n = 0; n < AHEAD && trial.takeStep(told) != NONE; n++) {
            most = Math.max(most, trial.powers[prime]);
        }
        return most;
    }

    public int often(int f) {
        if (!isTold(f)) {
            return BAD;
        }
        trial.copyFrom(now);
        int times = 0;
        for (int n = 0; n < AHEAD; n++) {
            if (trial.takeStep(told) == f) {
                times += trial.timesInStep;
            }
        }
        return times;
    }

    // ---- what it needs

    public int needed() {
        goal.copyFrom(now);
        if (goal.stepsToRest(told, AHEAD) == NONE) {
            return NONE;
        }
        int bits = 0;
        for (int place = 0; place < now.rowSize; place++) {
            trial.copyFrom(now);
            trial.leaveOut(place);
            if (trial.stepsToRest(told, AHEAD) == NONE || !trial.hasPowersOf(goal)) {
                bits |= 1 << now.row[place];
            }
        }
        return bits;
    }

    public int order(int k) {
        if (k < -1 || k >= MOST_FRACTIONS) {
            return BAD;
        }
        if (now.rowSize > MOST_ORDERED) {
            return NONE;
        }
        int soonest = findBestOrder();
        if (soonest == NONE || k >= now.rowSize) {
            return NONE;
        }
        return k == -1 ? soonest : bestOrder[k];
    }

    public int map(int a, int prime) {
        if (a < 0 || a > MOST_SOURCE || !isPrime(prime)) {
            return BAD;
        }
        return powerAtRestFrom(a, prime);
    }

    public int sources(int prime, int v, int what) {
        if (!isPrime(prime) || v < 0 || v > MOST_POWER || what < 0 || what > 1) {
            return BAD;
        }
        int many = 0;
        for (int a = 0; a <= MOST_SOURCE; a++) {
            if (powerAtRestFrom(a, prime) == v) {
                if (what == 1) {
                    return a;
                }
                many++;
            }
        }
        return what == 1 ? NONE : many;
    }

    public int whence() {
        int bits = 0;
        for (int place = 0; place < now.rowSize && now.step > 0; place++) {
            int f = now.row[place];
            if (now.wasUsed(f) && mayHaveBeenUsedLast(f)) {
                bits |= 1 << f;
            }
        }
        return bits;
    }

    // ---- of which kind

    public int see(int n, int f) {
        if (n < 1 || n > MOST_SEEN_STEP || f != NOTHING && !isTold(f)) {
            return BAD;
        }
        if (seenCount >= MOST_SEEN) {
            return FULL;
        }
        seenStep[seenCount] = n;
        seenFraction[seenCount] = f;
        seenCount++;
        return seenCount;
    }

    public int forget() {
        int many = seenCount;
        seenCount = 0;
        return many;
    }

    public int kinds(int f) {
        return isTold(f) ? findKinds(f) : BAD;
    }

    public int look(int f, int what) {
        if (!isTold(f) || what < 0 || what > 1) {
            return BAD;
        }
        int bits = findKinds(f);
        if (Integer.bitCount(bits) <= 1) {
            return NONE;
        }
        int best = 1;
        for (int n = 2; n <= MOST_LOOK_STEP; n++) {
            if (greatestPart(bits, n) < greatestPart(bits, best)) {
                best = n;
            }
        }
        return what == 0 ? best : greatestPart(bits, best);
    }

    // ---- turns, chances, days

    public int duel(int n) {
        return n < 0 || n > MOST_TURNS ? BAD : valueOfTurns(0, n, 0, 0);
    }

    public int odds(int f, int x, int part) {
        if (f != NOTHING && !isTold(f) || x < 0 || x > 10 || part < 0 || part > 1) {
            return BAD;
        }
        int ahead = now.usableAhead(told, f);
        int above = 1;
        int below = 1;
        for (int i = 0; i < ahead; i++) {
            above *= x;
            below *= 10;
        }
        if (f != NOTHING) {
            above *= now.placeOf(f) != NONE && now.isUsable(told, f) ? 10 - x : 0;
            below *= 10;
        }
        // Nothing by anything has the lowest terms 0 by 1, for that which divides both is then all of below.
        int shared = greatestDivisor(above, below);
        return (part == 0 ? above : below) / shared;
    }

    public int day(int z, int n, int what) {
        if (z < 0 || z > MOST_DAY || n < 1 || n > MOST_DRAWS || what < 0 || what > 2) {
            return BAD;
        }
        trial.copyFrom(now);
        int made = 0;
        for (int k = 0; k < n; k++) {
            long x = 7919L * z + 6151L * k + 1L;
            made += drawn((int) (x * x % DRAW_MODULUS));
        }
        if (what == 0) {
            return made;
        }
        return what == 1 ? trial.allPowers() : trial.row[0];
    }

    // ---- kept

    public int keep() {
        if (kept.size >= MOST_KEPT) {
            return FULL;
        }
        kept.push(now, text);
        return kept.size;
    }

    public int back() {
        if (kept.size == 0) {
            return NO;
        }
        kept.pop(now, text);
        past.clear();
        return kept.size;
    }

    public int count(int what) {
        switch (what) {
            case 0:
                return told.size;
            case 1:
                return now.rowSize;
            case 2:
                return now.step;
            case 3:
                return now.allPowers();
            case 4:
                return now.isAtRest(told) ? 1 : 0;
            case 5:
                return past.size;
            case 6:
                return kept.size;
            case 7:
                return seenCount;
            case 8:
                return text.size;
            case 9:
                return now.ended ? 1 : 0;
            default:
                return BAD;
        }
    }

    // ---- what the calls share

    private static boolean isPrime(int prime) {
        return prime >= 0 && prime < PRIME_COUNT;
    }

    private boolean isTold(int f) {
        return f >= 0 && f < told.size;
    }

    /** The greatest number that divides both, of which the second one is at least 1. */
    private static int greatestDivisor(int one, int other) {
        int a = one;
        int b = other;
        // Euclid's rows of numbers below 2 to the power of 31 have fewer than 50 members.
        for (int i = 0; i < 64 && b != 0; i++) {
            int left = a % b;
            a = b;
            b = left;
        }
        // At least 1, so that whatever is told can be divided by it.
        return Math.max(1, a);
    }

    /** Fills bestOrder: behind how many steps it rests by it, or NONE. */
    private int findBestOrder() {
        goal.copyFrom(now);
        goal.ended = false;
        goal.sortRow();
        int soonest = NONE;
        int limit = AHEAD;
        boolean more = true;
        for (int i = 0; i < ORDERS_OF_FIVE && more && limit >= 0; i++) {
            trial.copyFrom(goal);
            int behind = trial.stepsToRest(told, limit);
            if (behind != NONE) {
                soonest = behind;
                // A later order is the better one only if it rests sooner.
                limit = behind - 1;
                System.arraycopy(goal.row, 0, bestOrder, 0, MOST_FRACTIONS);
            }
            more = goal.toNextOrder();
        }
        return soonest;
    }

    private int powerAtRestFrom(int a, int prime) {
        trial.copyFrom(now);
        trial.beginAtPowerOfTwo(a);
        return trial.stepsToRest(told, AHEAD) == NONE ? NONE : trial.powers[prime];
    }

    private boolean mayHaveBeenUsedLast(int f) {
        int bit = 1 << f;
        int mostTimes = told.kinds[f] == EAGER ? 2 : 1;
        for (int times = 1; times <= mostTimes; times++) {
            if (leadsHere(f, times, now.usedBits) || leadsHere(f, times, now.usedBits & ~bit)) {
                return true;
            }
        }
        return false;
    }

    /** Whether a step from the number that was ahead of some uses of a fraction, with these used, comes to now. */
    private boolean leadsHere(int f, int times, int usedBits) {
        trial.copyFrom(now);
        trial.ended = false;
        trial.usedBits = usedBits;
        trial.step = now.step - 1;
        for (int prime = 0; prime < PRIME_COUNT; prime++) {
            int was = now.powers[prime] - times * told.changes[f * PRIME_COUNT + prime];
            if (was < 0 || was > MOST_POWER) {
                return false;
            }
            trial.powers[prime] = was;
        }
        return trial.takeStep(told) == f && trial.hasPowersOf(now) && trial.ended == now.ended;
    }

    /** Fills uses: the kinds of a fraction, as bits, by which all that is seen is so. */
    private int findKinds(int f) {
        draft.copyFrom(told);
        int bits = 0;
        for (int kind = 0; kind < KIND_COUNT; kind++) {
            draft.kinds[f] = kind;
            trial.copyFrom(now);
            for (int n = 1; n <= MOST_SEEN_STEP; n++) {
                int next = trial.takeStep(draft);
                uses[useAt(kind, n)] = next == NONE ? NOTHING : next;
            }
            if (tellsWhatWasSeen(kind)) {
                bits |= 1 << kind;
            }
        }
        return bits;
    }

    private static int useAt(int kind, int n) {
        return kind * (MOST_SEEN_STEP + 1) + n;
    }

    private boolean tellsWhatWasSeen(int kind) {
        for (int i = 0; i < seenCount; i++) {
            if (uses[useAt(kind, seenStep[i])] != seenFraction[i]) {
                return false;
            }
        }
        return true;
    }

    /** Of these kinds, how many at most use the same in the n-th step. */
    private int greatestPart(int bits, int n) {
        int most = 0;
        for (int kind = 0; kind < KIND_COUNT; kind++) {
            int alike = 0;
            for (int other = 0; other < KIND_COUNT; other++) {
                if ((bits >> other & 1) == 1 && uses[useAt(other, n)] == uses[useAt(kind, n)]) {
                    alike++;
                }
            }
            most = Math.max(most, alike);
        }
        return most;
    }

    /** What the turns from this one on come to, the number having been multiplied so often by 2 and by 3. */
    private int valueOfTurns(int turn, int turns, int twos, int threes) {
        if (turn >= turns || turn >= MOST_TURNS) {
            return stepsToRestBehind(twos, threes);
        }
        boolean wantsMuch = turn % 2 == 0;
        int best = valueOfTurns(turn + 1, turns, twos, threes);
        if (now.powers[0] + twos < MOST_POWER) {
            best = better(wantsMuch, best, valueOfTurns(turn + 1, turns, twos + 1, threes));
        }
        if (now.powers[1] + threes < MOST_POWER) {
            best = better(wantsMuch, best, valueOfTurns(turn + 1, turns, twos, threes + 1));
        }
        return best;
    }

    private static int better(boolean wantsMuch, int one, int other) {
        return wantsMuch ? Math.max(one, other) : Math.min(one, other);
    }

    private int stepsToRestBehind(int twos, int threes) {
        trial.copyFrom(now);
        // To do nothing is no deed: what is ended stays so.
        if (twos > 0) {
            trial.multiplyBy(0, twos);
        }
        if (threes > 0) {
            trial.multiplyBy(1, threes);
        }
        return trial.takeSteps(told, AHEAD);
    }

    /** Does to the trial what a draw of a day says: how many steps that made. */
    private int drawn(int draw) {
        switch (draw % 4) {
            case 2:
                int prime = draw / 8 % PRIME_COUNT;
                if (trial.powers[prime] < MOST_POWER) {
                    trial.multiplyBy(prime, 1);
                }
                return 0;
            case 3:
                if (trial.rowSize > 1) {
                    trial.shift(0, trial.rowSize - 1);
                }
                return 0;
            default:
                return trial.takeStep(told) == NONE ? 0 : 1;
        }
    }

    /** Letters, one behind the other. */
    private static final class Text {
        final char[] letters = new char[MOST_LETTERS];
        int size;

        void add(char letter) {
            if (size < MOST_LETTERS) {
                letters[size] = letter;
                size++;
            }
        }

        void clear() {
            size = 0;
        }

        /** The letter at a place, or 0 where there is none. */
        char letterAt(int place) {
            return place >= 0 && place < size ? letters[place] : (char) 0;
        }

        void copyFrom(Text other) {
            System.arraycopy(other.letters, 0, letters, 0, MOST_LETTERS);
            size = other.size;
        }
    }

    /** Reads the items of a text. */
    private static final class Reader {
        private static final int NUMBERS_OF_FRACTION = 3, NUMBERS_OF_START = 1, MOST_FIGURES = 3;

        private final int[] numbers = new int[NUMBERS_OF_FRACTION];

        /** Reads all items into fractions: the place of the first one that is not so, or NONE. */
        int read(Text text, Fractions into) {
            into.clear();
            int at = 0;
            for (int items = 0; items < MOST_LETTERS && at < text.size; items++) {
                int behind = readItem(text, at, into);
                if (behind == NONE) {
                    return at;
                }
                at = behind;
            }
            return NONE;
        }

        /** The place behind the item at a place, or NONE if it is not so. */
        private int readItem(Text text, int at, Fractions into) {
            char letter = text.letterAt(at);
            if (letter == 'f') {
                int behind = readNumbers(text, at + 1, NUMBERS_OF_FRACTION);
                return behind != NONE && into.add(numbers[0], numbers[1], numbers[2]) ? behind : NONE;
            }
            if (letter == 's') {
                int behind = readNumbers(text, at + 1, NUMBERS_OF_START);
                return behind != NONE && into.startAt(numbers[0]) ? behind : NONE;
            }
            return NONE;
        }

        private int readNumbers(Text text, int from, int many) {
            int at = from;
            for (int i = 0; i < many && i < NUMBERS_OF_FRACTION; i++) {
                int behind = readFigures(text, at, i);
                char parting = i == many - 1 ? ';' : ',';
                if (behind == at || text.letterAt(behind) != parting) {
                    return NONE;
                }
                at = behind + 1;
            }
            return at;
        }

        /** Reads three figures at most, so that a fourth one stands where the parting letter should. */
        private int readFigures(Text text, int from, int slot) {
            int value = 0;
            int at = from;
            for (int i = 0; i < MOST_FIGURES && isFigure(text.letterAt(at)); i++) {
                value = 10 * value + (text.letterAt(at) - '0');
                at++;
            }
            numbers[slot] = value;
            return at;
        }

        private static boolean isFigure(char letter) {
            return letter >= '0' && letter <= '9';
        }
    }

    /** The fractions that were told, and the number at first. */
    private static final class Fractions {
        final int[] kinds = new int[MOST_FRACTIONS];
        final int[] uppers = new int[MOST_FRACTIONS];
        final int[] lowers = new int[MOST_FRACTIONS];
        /** By how much a use changes each power, at f * PRIME_COUNT + prime; below 0 for a prime of the lower number. */
        final int[] changes = new int[MOST_FRACTIONS * PRIME_COUNT];
        final int[] startPowers = new int[PRIME_COUNT];
        int size;

        void clear() {
            size = 0;
            startAt(1);
        }

        /** Whether a fraction was as it must be, and was taken. */
        boolean add(int upper, int lower, int kind) {
            if (size >= MOST_FRACTIONS || kind < 0 || kind >= KIND_COUNT || !isOfPrimes(upper) || !isOfPrimes(lower)) {
                return false;
            }
            int shared = greatestDivisor(upper, lower);
            kinds[size] = kind;
            uppers[size] = upper / shared;
            lowers[size] = lower / shared;
            for (int prime = 0; prime < PRIME_COUNT; prime++) {
                changes[size * PRIME_COUNT + prime] = powerIn(upper, prime) - powerIn(lower, prime);
            }
            size++;
            return true;
        }

        /** Whether a number was as it must be, and was taken as the first one. */
        boolean startAt(int number) {
            if (!isOfPrimes(number)) {
                return false;
            }
            for (int prime = 0; prime < PRIME_COUNT; prime++) {
                startPowers[prime] = powerIn(number, prime);
            }
            return true;
        }

        void copyFrom(Fractions other) {
            System.arraycopy(other.kinds, 0, kinds, 0, MOST_FRACTIONS);
            System.arraycopy(other.uppers, 0, uppers, 0, MOST_FRACTIONS);
            System.arraycopy(other.lowers, 0, lowers, 0, MOST_FRACTIONS);
            System.arraycopy(other.changes, 0, changes, 0, MOST_FRACTIONS * PRIME_COUNT);
            System.arraycopy(other.startPowers, 0, startPowers, 0, PRIME_COUNT);
            size = other.size;
        }

        private static boolean isOfPrimes(int number) {
            if (number < 1 || number > MOST_TOLD) {
                return false;
            }
            int left = number;
            for (int prime = 0; prime < PRIME_COUNT; prime++) {
                for (int i = powerIn(number, prime); i > 0; i--) {
                    left /= PRIMES[prime];
                }
            }
            return left == 1;
        }

        /** The power of a prime in a number from 1 to 999, which is below 2 to the power of 10. */
        private static int powerIn(int number, int prime) {
            int left = number;
            int power = 0;
            for (int i = 0; i < 10 && left % PRIMES[prime] == 0; i++) {
                left /= PRIMES[prime];
                power++;
            }
            return power;
        }
    }

    /** The number, the row and what was done: all that deeds change. */
    private static final class State {
        final int[] powers = new int[PRIME_COUNT];
        final int[] row = new int[MOST_FRACTIONS];
        int rowSize;
        int usedBits;
        /** The number of the next step, and so how many there were. */
        int step;
        boolean ended;
        /** How many times the latest step used its fraction; told right behind a step alone, and so not copied. */
        int timesInStep;

        void begin(Fractions told) {
            System.arraycopy(told.startPowers, 0, powers, 0, PRIME_COUNT);
            rowSize = told.size;
            for (int f = 0; f < rowSize; f++) {
                row[f] = f;
            }
            forgetSteps();
        }

        void beginAtPowerOfTwo(int a) {
            for (int prime = 0; prime < PRIME_COUNT; prime++) {
                powers[prime] = 0;
            }
            powers[0] = a;
            forgetSteps();
        }

        private void forgetSteps() {
            usedBits = 0;
            step = 0;
            ended = false;
        }

        void copyFrom(State other) {
            System.arraycopy(other.powers, 0, powers, 0, PRIME_COUNT);
            System.arraycopy(other.row, 0, row, 0, MOST_FRACTIONS);
            rowSize = other.rowSize;
            usedBits = other.usedBits;
            step = other.step;
            ended = other.ended;
        }

        boolean hasPowersOf(State other) {
            for (int prime = 0; prime < PRIME_COUNT; prime++) {
                if (powers[prime] != other.powers[prime]) {
                    return false;
                }
            }
            return true;
        }

        int allPowers() {
            int sum = 0;
            for (int prime = 0; prime < PRIME_COUNT; prime++) {
                sum += powers[prime];
            }
            return sum;
        }

        int placeOf(int f) {
            for (int place = 0; place < rowSize; place++) {
                if (row[place] == f) {
                    return place;
                }
            }
            return NONE;
        }

        boolean wasUsed(int f) {
            return (usedBits >> f & 1) == 1;
        }

        /** Whether a fraction of the row can be used in the next step. */
        boolean isUsable(Fractions told, int f) {
            int kind = told.kinds[f];
            if (ended || kind == ONCE && (usedBits >> f & 1) == 1 || kind == SHY && step % 2 != 0) {
                return false;
            }
            int first = f * PRIME_COUNT;
            for (int prime = 0; prime < PRIME_COUNT; prime++) {
                // In lowest terms no prime is above and below, so the power that comes tells of both bounds.
                int then = powers[prime] + told.changes[first + prime];
                if (then < 0 || then > MOST_POWER) {
                    return false;
                }
            }
            return true;
        }

        /** The fraction that the next step uses, or NONE if it rests. */
        int nextFraction(Fractions told) {
            int last = NONE;
            for (int place = 0; place < rowSize; place++) {
                int f = row[place];
                boolean isLast = told.kinds[f] == LAST;
                if ((!isLast || last == NONE) && isUsable(told, f)) {
                    if (!isLast) {
                        return f;
                    }
                    last = f;
                }
            }
            return last;
        }

        /** How many that can be used come ahead of a fraction, or, if it is not in the row, how many there are. */
        int usableAhead(Fractions told, int f) {
            boolean isLast = placeOf(f) == NONE || told.kinds[f] == LAST;
            boolean behind = false;
            int many = 0;
            for (int place = 0; place < rowSize; place++) {
                int other = row[place];
                behind = behind || other == f;
                boolean isAhead = told.kinds[other] == LAST ? isLast && !behind : isLast || !behind;
                if (isAhead && isUsable(told, other)) {
                    many++;
                }
            }
            return many;
        }

        boolean isAtRest(Fractions told) {
            return nextFraction(told) == NONE;
        }

        /** Takes a step, unless it rests: the fraction used, or NONE. */
        int takeStep(Fractions told) {
            int f = nextFraction(told);
            if (f == NONE) {
                return NONE;
            }
            multiplyByFraction(told, f);
            timesInStep = 1;
            if (told.kinds[f] == EAGER && isUsable(told, f)) {
                multiplyByFraction(told, f);
                timesInStep = 2;
            }
            usedBits |= 1 << f;
            ended = told.kinds[f] == END;
            step++;
            return f;
        }

        private void multiplyByFraction(Fractions told, int f) {
            int first = f * PRIME_COUNT;
            for (int prime = 0; prime < PRIME_COUNT; prime++) {
                powers[prime] += told.changes[first + prime];
            }
        }

        /** Takes steps, so many or till it rests: how many there were. */
        int takeSteps(Fractions told, int most) {
            int made = 0;
            while (made < most && takeStep(told) != NONE) {
                made++;
            }
            return made;
        }

        /** Takes steps till it rests: how many there were, or NONE if it does not rest behind the most of them. */
        int stepsToRest(Fractions told, int most) {
            int made = takeSteps(told, most);
            return isAtRest(told) ? made : NONE;
        }

        void multiplyBy(int prime, int times) {
            powers[prime] += times;
            ended = false;
        }

        void leaveOut(int place) {
            for (int i = place; i < rowSize - 1; i++) {
                row[i] = row[i + 1];
            }
            rowSize--;
            ended = false;
        }

        void shift(int from, int to) {
            int f = row[from];
            for (int i = from; i < to; i++) {
                row[i] = row[i + 1];
            }
            for (int i = from; i > to; i--) {
                row[i] = row[i - 1];
            }
            row[to] = f;
            ended = false;
        }

        /** Lays the row in the first of all its orders. */
        void sortRow() {
            int size = 0;
            int present = 0;
            for (int place = 0; place < rowSize; place++) {
                present |= 1 << row[place];
            }
            for (int f = 0; f < MOST_FRACTIONS; f++) {
                if ((present >> f & 1) == 1) {
                    row[size] = f;
                    size++;
                }
            }
        }

        /** Lays the row in the order that comes behind this one: whether there is one. */
        boolean toNextOrder() {
            int place = rowSize - 2;
            while (place >= 0 && row[place] > row[place + 1]) {
                place--;
            }
            if (place < 0) {
                return false;
            }
            int greater = rowSize - 1;
            while (greater > place && row[greater] < row[place]) {
                greater--;
            }
            swap(place, greater);
            for (int i = place + 1, j = rowSize - 1; i < j; i++, j--) {
                swap(i, j);
            }
            return true;
        }

        private void swap(int i, int j) {
            int f = row[i];
            row[i] = row[j];
            row[j] = f;
        }
    }

    /** The states ahead of the latest deeds; of more than it holds the oldest is lost. */
    private static final class Past {
        final State[] states = new State[MOST_UNDONE];
        int next;
        int size;

        Past() {
            for (int i = 0; i < MOST_UNDONE; i++) {
                states[i] = new State();
            }
        }

        void clear() {
            size = 0;
        }

        void push(State state) {
            states[next].copyFrom(state);
            next = (next + 1) % MOST_UNDONE;
            size = Math.min(size + 1, MOST_UNDONE);
        }

        void pop(State into) {
            if (size > 0) {
                next = (next + MOST_UNDONE - 1) % MOST_UNDONE;
                size--;
                into.copyFrom(states[next]);
            }
        }
    }

    /** What is kept: all but what is seen, and so the text too. */
    private static final class Kept {
        final State[] states = new State[MOST_KEPT];
        final Text[] texts = new Text[MOST_KEPT];
        int size;

        Kept() {
            for (int i = 0; i < MOST_KEPT; i++) {
                states[i] = new State();
                texts[i] = new Text();
            }
        }

        void clear() {
            size = 0;
        }

        void push(State state, Text text) {
            if (size < MOST_KEPT) {
                states[size].copyFrom(state);
                texts[size].copyFrom(text);
                size++;
            }
        }

        void pop(State state, Text text) {
            if (size > 0) {
                size--;
                state.copyFrom(states[size]);
                text.copyFrom(texts[size]);
            }
        }
    }

    /** All that is behind 0 to 200 steps, to find where it comes round. */
    private static final class Course {
        /** The powers, in ten bits each, and whether the next step is an even one. */
        final long[] numbers = new long[AHEAD + 1];
        final int[] usedBits = new int[AHEAD + 1];

        /** Takes 200 steps: whether it does not rest by then. */
        boolean follow(State state, Fractions told) {
            note(0, state);
            for (int n = 1; n <= AHEAD; n++) {
                if (state.takeStep(told) == NONE) {
                    return false;
                }
                note(n, state);
            }
            return !state.isAtRest(told);
        }

        private void note(int n, State state) {
            long packed = state.step % 2;
            for (int prime = 0; prime < PRIME_COUNT; prime++) {
                packed = packed << 10 | state.powers[prime];
            }
            numbers[n] = packed;
            usedBits[n] = state.usedBits;
        }

        private boolean isAlike(int one, int other) {
            return numbers[one] == numbers[other] && usedBits[one] == usedBits[other];
        }

        /**
         * What comes hangs on what is alone: if it comes round at all, it still does behind the 200th step, and the
         * latest time that was alike tells by how many. NONE if it does not.
         */
        int lengthOfRound() {
            for (int length = 1; length <= AHEAD; length++) {
                if (isAlike(AHEAD - length, AHEAD)) {
                    return length;
                }
            }
            return NONE;
        }

        int beginOfRound(int length) {
            for (int n = 0; n + length <= AHEAD; n++) {
                if (isAlike(n, n + length)) {
                    return n;
                }
            }
            return NONE;
        }
    }
}
