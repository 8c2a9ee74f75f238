import java.math.BigInteger;
import java.util.ArrayDeque;
import java.util.ArrayList;
import java.util.Arrays;
import java.util.Collections;
import java.util.Deque;
import java.util.HashMap;
import java.util.List;
import java.util.Map;
import java.util.Random;
import java.util.Set;
import java.util.TreeMap;
import java.util.TreeSet;
import java.util.function.IntUnaryOperator;
import java.util.regex.Matcher;
import java.util.regex.Pattern;

/**
 * Random runs of calls beside a second program of the same document, which is written as plainly as can be, with
 * states that are never changed, whole lists of all that may be, and numbers of any size.
 */
public final class ModelTest {
    private static final int RUNS = 1500;
    private static final int CALLS = 512;
    private static final int BAD = -1, NO = -2, FULL = -3, NONE = -4;
    private static final int[] PRIMES = {2, 3, 5, 7, 11, 13};

    public static void main(String[] args) {
        int runs = args.length > 0 ? Integer.parseInt(args[0]) : RUNS;
        int first = args.length > 1 ? Integer.parseInt(args[1]) : 0;
        for (int seed = first; seed < first + runs; seed++) {
            String fault = new Run(seed).go();
            if (fault != null) {
                System.out.println("seed " + seed + ":\n" + fault);
                System.exit(1);
            }
        }
        System.out.println(runs + " runs are alike");
    }

    // ---- the model

    record Fraction(Map<Integer, Integer> above, Map<Integer, Integer> below, int upper, int lower, int kind) {}

    record Situation(List<Fraction> told, List<Integer> row, Map<Integer, Integer> number, Set<Integer> used,
                     int step, boolean ended) {
        Situation withNumber(Map<Integer, Integer> other) {
            return new Situation(told, row, other, used, step, false);
        }

        Situation withRow(List<Integer> other) {
            return new Situation(told, other, number, used, step, false);
        }

        Situation multiplied(int prime, int times) {
            Map<Integer, Integer> other = new TreeMap<>(number);
            other.merge(PRIMES[prime], times, Integer::sum);
            return withNumber(other);
        }

        Situation without(int f) {
            List<Integer> other = new ArrayList<>(row);
            other.remove(Integer.valueOf(f));
            return withRow(other);
        }

        Situation moved(int f, int place) {
            List<Integer> other = new ArrayList<>(row);
            other.remove(Integer.valueOf(f));
            other.add(place, f);
            return withRow(other);
        }

        int power(int prime) {
            return number.getOrDefault(PRIMES[prime], 0);
        }

        int powers() {
            return number.values().stream().mapToInt(Integer::intValue).sum();
        }

        boolean can(int f) {
            Fraction fraction = told.get(f);
            if (ended || !row.contains(f)) {
                return false;
            }
            for (int p : PRIMES) {
                int has = number.getOrDefault(p, 0);
                int needs = fraction.below().getOrDefault(p, 0);
                if (needs > has || has - needs + fraction.above().getOrDefault(p, 0) > 999) {
                    return false;
                }
            }
            return switch (fraction.kind()) {
                case 1 -> !used.contains(f);
                case 2 -> step % 2 == 0;
                default -> true;
            };
        }

        /** All that can be used, in the order in which they come. */
        List<Integer> candidates() {
            List<Integer> all = new ArrayList<>();
            for (int f : row) {
                if (told.get(f).kind() != 4 && can(f)) {
                    all.add(f);
                }
            }
            for (int f : row) {
                if (told.get(f).kind() == 4 && can(f)) {
                    all.add(f);
                }
            }
            return all;
        }

        boolean rests() {
            return candidates().isEmpty();
        }

        private Situation byFraction(int f) {
            Map<Integer, Integer> other = new TreeMap<>(number);
            told.get(f).above().forEach((p, k) -> other.merge(p, k, Integer::sum));
            told.get(f).below().forEach((p, k) -> other.merge(p, -k, Integer::sum));
            return withNumber(other);
        }

        Situation next() {
            if (rests()) {
                return this;
            }
            int f = candidates().get(0);
            Situation s = byFraction(f);
            if (told.get(f).kind() == 3 && s.can(f)) {
                s = s.byFraction(f);
            }
            Set<Integer> nowUsed = new TreeSet<>(used);
            nowUsed.add(f);
            return new Situation(told, row, s.number, nowUsed, step + 1, told.get(f).kind() == 5);
        }

        List<Situation> course(int steps) {
            List<Situation> all = new ArrayList<>();
            all.add(this);
            for (int i = 0; i < steps; i++) {
                all.add(all.get(i).next());
            }
            return all;
        }

        int used(int n) {
            List<Integer> all = course(n - 1).get(n - 1).candidates();
            return all.isEmpty() ? NONE : all.get(0);
        }

        int restsBehind() {
            Situation s = this;
            for (int n = 0; n <= 200; n++) {
                if (s.rests()) {
                    return n;
                }
                s = s.next();
            }
            return NONE;
        }

        Map<Integer, Integer> plainNumber() {
            Map<Integer, Integer> plain = new TreeMap<>(number);
            plain.values().removeIf(k -> k == 0);
            return plain;
        }
    }

    private static Map<Integer, Integer> factors(int n) {
        Map<Integer, Integer> all = new TreeMap<>();
        int left = n;
        for (int p : PRIMES) {
            for (; left > 0 && left % p == 0; left /= p) {
                all.merge(p, 1, Integer::sum);
            }
        }
        return left == 1 ? all : null;
    }

    static final class Model {
        String text = "";
        Situation now = begin("f455,33,0;f11,13,0;f1,11,0;f3,7,0;f11,2,0;f1,3,0;s72;");
        Deque<Situation> past = new ArrayDeque<>();
        List<Situation> kept = new ArrayList<>();
        List<String> keptTexts = new ArrayList<>();
        List<int[]> seen = new ArrayList<>();

        private static final Pattern ITEM = Pattern.compile("f(\\d{1,3}),(\\d{1,3}),(\\d{1,3});|s(\\d{1,3});");

        private static int faultOf(String text) {
            Matcher m = ITEM.matcher(text);
            int at = 0;
            int fractions = 0;
            while (at < text.length()) {
                m.region(at, text.length());
                if (!m.lookingAt()) {
                    return at;
                }
                if (m.group(4) != null) {
                    if (factors(Integer.parseInt(m.group(4))) == null) {
                        return at;
                    }
                } else {
                    fractions++;
                    if (factors(Integer.parseInt(m.group(1))) == null || factors(Integer.parseInt(m.group(2))) == null
                        || Integer.parseInt(m.group(3)) > 5 || fractions > 8) {
                        return at;
                    }
                }
                at = m.end();
            }
            return NONE;
        }

        private static Situation begin(String text) {
            List<Fraction> told = new ArrayList<>();
            List<Integer> row = new ArrayList<>();
            Map<Integer, Integer> number = new TreeMap<>();
            Matcher m = ITEM.matcher(text);
            while (m.find()) {
                if (m.group(4) != null) {
                    number = factors(Integer.parseInt(m.group(4)));
                } else {
                    int u = Integer.parseInt(m.group(1));
                    int l = Integer.parseInt(m.group(2));
                    int d = BigInteger.valueOf(u).gcd(BigInteger.valueOf(l)).intValue();
                    row.add(told.size());
                    told.add(new Fraction(factors(u / d), factors(l / d), u / d, l / d, Integer.parseInt(m.group(3))));
                }
            }
            return new Situation(told, row, number, new TreeSet<>(), 0, false);
        }

        private boolean told(int f) {
            return f >= 0 && f < now.told().size();
        }

        private static boolean in(int x, int least, int most) {
            return x >= least && x <= most;
        }

        private void deed(Situation then) {
            past.addLast(now);
            if (past.size() > 8) {
                past.removeFirst();
            }
            now = then;
        }

        private static int bits(Iterable<Integer> all) {
            int bits = 0;
            for (int f : all) {
                bits |= 1 << f;
            }
            return bits;
        }

        int write(int letter) {
            if (!in(letter, 32, 126)) {
                return BAD;
            }
            if (text.length() == 200) {
                return FULL;
            }
            text += (char) letter;
            return text.length();
        }

        int wipe() {
            int size = text.length();
            text = "";
            return size;
        }

        int fault() {
            return faultOf(text);
        }

        int lay() {
            if (faultOf(text) != NONE || text.indexOf('f') < 0) {
                return NO;
            }
            now = begin(text);
            past.clear();
            kept.clear();
            keptTexts.clear();
            seen.clear();
            return now.told().size();
        }

        int fraction(int f, int what) {
            if (!told(f) || !in(what, 0, 5)) {
                return BAD;
            }
            Fraction it = now.told().get(f);
            int place = now.row().indexOf(f);
            int[] answers = {it.kind(), it.upper(), it.lower(), place < 0 ? NONE : place,
                now.used().contains(f) ? 1 : 0, now.candidates().contains(f) ? 1 : 0};
            return answers[what];
        }

        int number(int prime) {
            return in(prime, 0, 5) ? now.power(prime) : BAD;
        }

        int steps(int n) {
            if (!in(n, 1, 50)) {
                return BAD;
            }
            if (now.rests() || now.step() >= 999) {
                return NO;
            }
            Situation s = now;
            int made = 0;
            while (made < n && !s.rests() && s.step() < 999) {
                s = s.next();
                made++;
            }
            deed(s);
            return made;
        }

        int multiply(int prime, int k) {
            if (!in(prime, 0, 5) || k == 0 || !in(k, -9, 9)) {
                return BAD;
            }
            if (!in(now.power(prime) + k, 0, 999)) {
                return NO;
            }
            deed(now.multiplied(prime, k));
            return now.power(prime);
        }

        int move(int f, int place) {
            if (!told(f) || !in(place, 0, now.row().size() - 1)) {
                return BAD;
            }
            int was = now.row().indexOf(f);
            if (was < 0 || was == place) {
                return NO;
            }
            deed(now.moved(f, place));
            return was;
        }

        int drop(int f) {
            if (!told(f)) {
                return BAD;
            }
            if (!now.row().contains(f) || now.row().size() == 1) {
                return NO;
            }
            deed(now.without(f));
            return now.row().size();
        }

        int undo() {
            if (past.isEmpty()) {
                return NO;
            }
            now = past.removeLast();
            return past.size();
        }

        int power(int prime, int n) {
            return in(prime, 0, 5) && in(n, 0, 200) ? now.course(n).get(n).power(prime) : BAD;
        }

        int used(int n) {
            return in(n, 1, 200) ? now.used(n) : BAD;
        }

        int rests() {
            return now.restsBehind();
        }

        int round(int what) {
            if (!in(what, 0, 1)) {
                return BAD;
            }
            if (now.restsBehind() != NONE) {
                return NONE;
            }
            List<List<Object>> all = new ArrayList<>();
            for (Situation s : now.course(200)) {
                all.add(List.of(s.plainNumber(), s.used(), s.step() % 2));
            }
            for (int i = 0; i <= 200; i++) {
                for (int j = i + 1; j <= 200; j++) {
                    if (all.get(i).hashCode() == all.get(j).hashCode() && all.get(i).equals(all.get(j))) {
                        return what == 0 ? i : j - i;
                    }
                }
            }
            return NONE;
        }

        int greatest(int prime) {
            return in(prime, 0, 5) ? now.course(200).stream().mapToInt(s -> s.power(prime)).max().getAsInt() : BAD;
        }

        int often(int f) {
            if (!told(f)) {
                return BAD;
            }
            int times = 0;
            for (Situation s : now.course(199)) {
                if (!s.rests() && s.candidates().get(0) == f) {
                    times++;
                    Situation behind = s.byFraction(f);
                    times += s.told().get(f).kind() == 3 && behind.can(f) ? 1 : 0;
                }
            }
            return times;
        }

        int needed() {
            if (now.restsBehind() == NONE) {
                return NONE;
            }
            Map<Integer, Integer> number = now.course(200).get(200).plainNumber();
            List<Integer> all = new ArrayList<>();
            for (int f : now.row()) {
                Situation other = now.without(f);
                if (other.restsBehind() == NONE || !other.course(200).get(200).plainNumber().equals(number)) {
                    all.add(f);
                }
            }
            return bits(all);
        }

        private static void orders(List<Integer> left, List<Integer> begun, List<List<Integer>> into) {
            if (left.isEmpty()) {
                into.add(List.copyOf(begun));
            }
            for (int f : left) {
                List<Integer> fewer = new ArrayList<>(left);
                fewer.remove(Integer.valueOf(f));
                List<Integer> more = new ArrayList<>(begun);
                more.add(f);
                orders(fewer, more, into);
            }
        }

        int order(int k) {
            if (!in(k, -1, 7)) {
                return BAD;
            }
            if (now.row().size() > 5) {
                return NONE;
            }
            List<Integer> sorted = new ArrayList<>(now.row());
            Collections.sort(sorted);
            List<List<Integer>> all = new ArrayList<>();
            orders(sorted, List.of(), all);
            List<Integer> best = null;
            int least = Integer.MAX_VALUE;
            for (List<Integer> row : all) {
                int behind = now.withRow(row).restsBehind();
                if (behind != NONE && behind < least) {
                    least = behind;
                    best = row;
                }
            }
            if (best == null || k >= best.size()) {
                return NONE;
            }
            return k < 0 ? least : best.get(k);
        }

        int map(int a, int prime) {
            if (!in(a, 0, 40) || !in(prime, 0, 5)) {
                return BAD;
            }
            Situation s = new Situation(now.told(), now.row(), Map.of(2, a), Set.of(), 0, false);
            return s.restsBehind() == NONE ? NONE : s.course(200).get(200).power(prime);
        }

        int sources(int prime, int v, int what) {
            if (!in(prime, 0, 5) || !in(v, 0, 999) || !in(what, 0, 1)) {
                return BAD;
            }
            List<Integer> all = new ArrayList<>();
            for (int a = 0; a <= 40; a++) {
                if (map(a, prime) == v) {
                    all.add(a);
                }
            }
            return what == 0 ? all.size() : all.isEmpty() ? NONE : all.get(0);
        }

        int whence() {
            if (now.step() == 0) {
                return 0;
            }
            List<Integer> all = new ArrayList<>();
            for (int f : now.row()) {
                if (now.used().contains(f) && cameBy(f)) {
                    all.add(f);
                }
            }
            return bits(all);
        }

        private boolean cameBy(int f) {
            Set<Integer> without = new TreeSet<>(now.used());
            without.remove(f);
            Fraction it = now.told().get(f);
            // Twice is tried for every kind; the step forwards tells whether it may be.
            for (int times = 1; times <= 2; times++) {
                Map<Integer, Integer> was = new TreeMap<>();
                boolean may = true;
                for (int p : PRIMES) {
                    int k = now.number().getOrDefault(p, 0)
                        + times * (it.below().getOrDefault(p, 0) - it.above().getOrDefault(p, 0));
                    may &= in(k, 0, 999);
                    was.put(p, k);
                }
                for (Set<Integer> used : List.of(now.used(), without)) {
                    Situation s = new Situation(now.told(), now.row(), was, used, now.step() - 1, false);
                    if (may && s.used(1) == f) {
                        Situation then = s.next();
                        if (then.plainNumber().equals(now.plainNumber()) && then.used().equals(now.used())
                            && then.ended() == now.ended()) {
                            return true;
                        }
                    }
                }
            }
            return false;
        }

        int see(int n, int f) {
            if (!in(n, 1, 60) || !told(f) && f != 8) {
                return BAD;
            }
            if (seen.size() == 6) {
                return FULL;
            }
            seen.add(new int[] {n, f});
            return seen.size();
        }

        int forget() {
            int size = seen.size();
            seen.clear();
            return size;
        }

        private Situation asKind(int f, int kind) {
            List<Fraction> others = new ArrayList<>(now.told());
            Fraction it = others.get(f);
            others.set(f, new Fraction(it.above(), it.below(), it.upper(), it.lower(), kind));
            return new Situation(others, now.row(), now.number(), now.used(), now.step(), now.ended());
        }

        private List<Integer> fitting(int f) {
            List<Integer> all = new ArrayList<>();
            for (int kind = 0; kind < 6; kind++) {
                boolean fits = true;
                for (int[] one : seen) {
                    int used = asKind(f, kind).used(one[0]);
                    fits &= used == (one[1] == 8 ? NONE : one[1]);
                }
                if (fits) {
                    all.add(kind);
                }
            }
            return all;
        }

        int kinds(int f) {
            return told(f) ? bits(fitting(f)) : BAD;
        }

        int look(int f, int what) {
            if (!told(f) || !in(what, 0, 1)) {
                return BAD;
            }
            List<Integer> all = fitting(f);
            if (all.size() <= 1) {
                return NONE;
            }
            int best = 0;
            int least = 99;
            for (int n = 1; n <= 20; n++) {
                Map<Integer, Integer> parts = new HashMap<>();
                for (int kind : all) {
                    parts.merge(asKind(f, kind).used(n), 1, Integer::sum);
                }
                int greatest = Collections.max(parts.values());
                if (greatest < least) {
                    least = greatest;
                    best = n;
                }
            }
            return what == 0 ? best : least;
        }

        private static int play(Situation s, int left, boolean much) {
            if (left == 0) {
                int behind = s.restsBehind();
                return behind == NONE ? 200 : behind;
            }
            List<Integer> all = new ArrayList<>();
            all.add(play(s, left - 1, !much));
            for (int prime = 0; prime < 2; prime++) {
                if (s.power(prime) < 999) {
                    all.add(play(s.multiplied(prime, 1), left - 1, !much));
                }
            }
            return much ? Collections.max(all) : Collections.min(all);
        }

        int duel(int n) {
            return in(n, 0, 4) ? play(now, n, true) : BAD;
        }

        /** Over all that may be passed over or not, weighed one by one. */
        int odds(int f, int x, int part) {
            if (!told(f) && f != 8 || !in(x, 0, 10) || !in(part, 0, 1)) {
                return BAD;
            }
            List<Integer> all = now.candidates();
            BigInteger above = BigInteger.ZERO;
            for (int passed = 0; passed < 1 << all.size(); passed++) {
                BigInteger weight = BigInteger.ONE;
                int first = 8;
                for (int i = all.size() - 1; i >= 0; i--) {
                    boolean isPassed = (passed >> i & 1) == 1;
                    weight = weight.multiply(BigInteger.valueOf(isPassed ? x : 10 - x));
                    first = isPassed ? first : all.get(i);
                }
                above = first == f ? above.add(weight) : above;
            }
            BigInteger below = BigInteger.TEN.pow(all.size());
            BigInteger shared = above.gcd(below);
            return (part == 0 ? above : below).divide(shared).intValueExact();
        }

        int day(int z, int n, int what) {
            if (!in(z, 0, 9999) || !in(n, 1, 60) || !in(what, 0, 2)) {
                return BAD;
            }
            Situation s = now;
            int made = 0;
            for (int k = 0; k < n; k++) {
                BigInteger x = BigInteger.valueOf(7919).multiply(BigInteger.valueOf(z)).add(BigInteger.valueOf(6151 * k + 1));
                int draw = x.multiply(x).mod(BigInteger.valueOf(65521)).intValue();
                if (draw % 4 < 2) {
                    made += s.rests() ? 0 : 1;
                    s = s.next();
                } else if (draw % 4 == 2) {
                    int prime = draw / 8 % 6;
                    s = s.power(prime) < 999 ? s.multiplied(prime, 1) : s;
                } else if (s.row().size() > 1) {
                    s = s.moved(s.row().get(0), s.row().size() - 1);
                }
            }
            return what == 0 ? made : what == 1 ? s.powers() : s.row().get(0);
        }

        int keep() {
            if (kept.size() == 2) {
                return FULL;
            }
            kept.add(now);
            keptTexts.add(text);
            return kept.size();
        }

        int back() {
            if (kept.isEmpty()) {
                return NO;
            }
            now = kept.remove(kept.size() - 1);
            text = keptTexts.remove(keptTexts.size() - 1);
            past.clear();
            return kept.size();
        }

        int count(int what) {
            if (!in(what, 0, 9)) {
                return BAD;
            }
            int[] all = {now.told().size(), now.row().size(), now.step(), now.powers(), now.rests() ? 1 : 0, past.size(),
                kept.size(), seen.size(), text.length(), now.ended() ? 1 : 0};
            return all[what];
        }
    }

    // ---- the runs

    static final class Run {
        private static final String[] NAMES = {"write", "wipe", "fault", "lay", "fraction", "number", "steps", "multiply",
            "move", "drop", "undo", "power", "used", "rests", "round", "greatest", "often", "needed", "order", "map",
            "sources", "whence", "see", "forget", "kinds", "look", "duel", "odds", "day", "keep", "back", "count"};
        /** How often each of these comes; those that take the model long come seldom. */
        private static final int[] WEIGHTS = {3, 1, 2, 2, 12, 6, 30, 24, 12, 6, 14, 4, 6, 6, 4, 3, 4, 4, 2, 4,
            1, 16, 8, 2, 8, 4, 1, 12, 6, 5, 5, 16};
        private static final int[] WILD = {-1, 0, 1, 2, 5, 6, 7, 8, 9, 10, 40, 41, 60, 61, 200, 201, 999, 1000, 9999, 10000,
            -10, -9, -2, Integer.MAX_VALUE, Integer.MIN_VALUE};

        private final Random random;
        private final FractionRun it = new FractionRun();
        private final Model model = new Model();
        private final List<String> log = new ArrayList<>();
        private int calls = 0;
        private boolean differs = false;

        Run(int seed) {
            random = new Random(seed * 7919L + 17);
        }

        String go() {
            if (random.nextInt(10) > 0) {
                layText();
            }
            if (random.nextInt(12) == 0) {
                int prime = random.nextInt(2);
                for (int i = 0; i < 111; i++) {
                    call("multiply", prime, 9, 0);
                }
            }
            if (random.nextInt(12) == 0) {
                for (int i = 0; i < 20; i++) {
                    call("steps", 50, 0, 0);
                }
            }
            int most = random.nextInt(8) == 0 ? CALLS : 40 + random.nextInt(160);
            for (int i = 0; i < most && calls < CALLS && !differs; i++) {
                randomCall();
            }
            return differs ? String.join("\n", log) : null;
        }

        private void call(String name, int a, int b, int c) {
            if (differs || calls >= CALLS) {
                return;
            }
            calls++;
            int got = ofProgram(it, name, a, b, c);
            int want = ofModel(model, name, a, b, c);
            log.add(name + "(" + a + ", " + b + ", " + c + ") answered " + got + ", due is " + want);
            differs = got != want;
        }

        private void writeText(String text) {
            for (char letter : text.toCharArray()) {
                call("write", letter, 0, 0);
            }
        }

        private void layText() {
            call("wipe", 0, 0, 0);
            writeText(randomText());
            call("fault", 0, 0, 0);
            call("lay", 0, 0, 0);
        }

        private int smooth(int most) {
            int n;
            do {
                n = 1 + random.nextInt(most);
            } while (factors(n) == null);
            return n;
        }

        private String randomText() {
            StringBuilder text = new StringBuilder();
            int fractions = random.nextInt(30) == 0 ? 9 : 1 + random.nextInt(random.nextBoolean() ? 4 : 8);
            int size = new int[] {6, 15, 30, 999}[random.nextInt(4)];
            int plain = random.nextInt(3);
            for (int i = 0; i < fractions; i++) {
                int kind = random.nextInt(3) < plain ? 0 : random.nextInt(6);
                text.append('f').append(smooth(size)).append(',').append(smooth(size)).append(',').append(kind).append(';');
            }
            if (random.nextInt(8) > 0) {
                text.append('s').append(smooth(999)).append(';');
            }
            if (random.nextInt(10) == 0) {
                text.setCharAt(random.nextInt(text.length()), "f,;s0123456789 x".charAt(random.nextInt(16)));
            }
            return text.toString();
        }

        private void randomCall() {
            int sum = Arrays.stream(WEIGHTS).sum();
            int at = random.nextInt(sum);
            int i = 0;
            while (at >= WEIGHTS[i]) {
                at -= WEIGHTS[i];
                i++;
            }
            String name = NAMES[i];
            IntUnaryOperator below = n -> random.nextInt(40) == 0 ? WILD[random.nextInt(WILD.length)] : random.nextInt(n);
            int told = model.now.told().size();
            int f = below.applyAsInt(told);
            int orNone = random.nextInt(4) == 0 ? 8 : f;
            int prime = below.applyAsInt(6);
            int what = below.applyAsInt(2);
            switch (name) {
                case "write" -> call(name, below.applyAsInt(128), 0, 0);
                case "lay" -> relay();
                case "fraction" -> call(name, f, below.applyAsInt(6), 0);
                case "number", "greatest" -> call(name, prime, 0, 0);
                case "steps" -> call(name, random.nextBoolean() ? 1 + below.applyAsInt(3) : below.applyAsInt(52), 0, 0);
                case "multiply" -> call(name, prime, random.nextInt(3) > 0 ? 1 : below.applyAsInt(21) - 10, 0);
                case "move" -> call(name, f, below.applyAsInt(told + 1), 0);
                case "drop", "often", "kinds" -> call(name, f, 0, 0);
                case "power" -> call(name, prime, below.applyAsInt(201), 0);
                case "used" -> call(name, 1 + below.applyAsInt(random.nextBoolean() ? 10 : 201), 0, 0);
                case "round" -> call(name, what, 0, 0);
                case "order" -> call(name, below.applyAsInt(7) - 1, 0, 0);
                case "map" -> call(name, below.applyAsInt(41), prime, 0);
                case "sources" -> call(name, prime, below.applyAsInt(random.nextBoolean() ? 4 : 1000), what);
                case "see" -> see(orNone, below);
                case "look" -> call(name, f, what, 0);
                case "duel" -> call(name, below.applyAsInt(random.nextInt(4) == 0 ? 5 : 3), 0, 0);
                case "odds" -> call(name, orNone, below.applyAsInt(11), what);
                case "day" -> call(name, below.applyAsInt(10000), 1 + below.applyAsInt(60), below.applyAsInt(3));
                case "count" -> call(name, below.applyAsInt(10), 0, 0);
                default -> call(name, 0, 0, 0);
            }
        }

        private void relay() {
            if (random.nextBoolean()) {
                call("lay", 0, 0, 0);
            } else {
                layText();
            }
        }

        /** Mostly such as some kind tells, so that kinds are left. */
        private void see(int f, IntUnaryOperator below) {
            int n = 1 + below.applyAsInt(random.nextBoolean() ? 6 : 60);
            if (n >= 1 && n <= 60 && random.nextInt(3) > 0) {
                int used = model.asKind(random.nextInt(model.now.told().size()), random.nextInt(6)).used(n);
                call("see", n, used == NONE ? 8 : used, 0);
            } else {
                call("see", n, f, 0);
            }
        }
    }

    private static int ofProgram(FractionRun x, String name, int a, int b, int c) {
        return switch (name) {
            case "write" -> x.write(a);
            case "wipe" -> x.wipe();
            case "fault" -> x.fault();
            case "lay" -> x.lay();
            case "fraction" -> x.fraction(a, b);
            case "number" -> x.number(a);
            case "steps" -> x.steps(a);
            case "multiply" -> x.multiply(a, b);
            case "move" -> x.move(a, b);
            case "drop" -> x.drop(a);
            case "undo" -> x.undo();
            case "power" -> x.power(a, b);
            case "used" -> x.used(a);
            case "rests" -> x.rests();
            case "round" -> x.round(a);
            case "greatest" -> x.greatest(a);
            case "often" -> x.often(a);
            case "needed" -> x.needed();
            case "order" -> x.order(a);
            case "map" -> x.map(a, b);
            case "sources" -> x.sources(a, b, c);
            case "whence" -> x.whence();
            case "see" -> x.see(a, b);
            case "forget" -> x.forget();
            case "kinds" -> x.kinds(a);
            case "look" -> x.look(a, b);
            case "duel" -> x.duel(a);
            case "odds" -> x.odds(a, b, c);
            case "day" -> x.day(a, b, c);
            case "keep" -> x.keep();
            case "back" -> x.back();
            default -> x.count(a);
        };
    }

    private static int ofModel(Model x, String name, int a, int b, int c) {
        return switch (name) {
            case "write" -> x.write(a);
            case "wipe" -> x.wipe();
            case "fault" -> x.fault();
            case "lay" -> x.lay();
            case "fraction" -> x.fraction(a, b);
            case "number" -> x.number(a);
            case "steps" -> x.steps(a);
            case "multiply" -> x.multiply(a, b);
            case "move" -> x.move(a, b);
            case "drop" -> x.drop(a);
            case "undo" -> x.undo();
            case "power" -> x.power(a, b);
            case "used" -> x.used(a);
            case "rests" -> x.rests();
            case "round" -> x.round(a);
            case "greatest" -> x.greatest(a);
            case "often" -> x.often(a);
            case "needed" -> x.needed();
            case "order" -> x.order(a);
            case "map" -> x.map(a, b);
            case "sources" -> x.sources(a, b, c);
            case "whence" -> x.whence();
            case "see" -> x.see(a, b);
            case "forget" -> x.forget();
            case "kinds" -> x.kinds(a);
            case "look" -> x.look(a, b);
            case "duel" -> x.duel(a);
            case "odds" -> x.odds(a, b, c);
            case "day" -> x.day(a, b, c);
            case "keep" -> x.keep();
            case "back" -> x.back();
            default -> x.count(a);
        };
    }
}
