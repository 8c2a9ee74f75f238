import java.lang.reflect.InvocationTargetException;
import java.lang.reflect.Method;
import java.util.ArrayList;
import java.util.Arrays;
import java.util.HashMap;
import java.util.List;
import java.util.Map;

/**
 * The edges: for each sentence of the document that names a bound or a refused call, the last value that is still told and
 * the first one that is not. Behind each call that must change nothing all that can be seen of the object is looked at,
 * what can be undone, what is kept and what the text says too.
 */
public final class EdgeTest {
    private static final int BAD = FractionRun.BAD, NO = FractionRun.NO, FULL = FractionRun.FULL, NONE = FractionRun.NONE;
    private static final int LOWEST = Integer.MIN_VALUE, HIGHEST = Integer.MAX_VALUE;
    private static final int[] PRIMES = {2, 3, 5, 7, 11, 13};
    private static int wrong = 0;
    private static int checks = 0;

    public static void main(String[] args) {
        terms();
        rows();
        deeds();
        whatComes();
        whatItNeeds();
        ofWhichKind();
        turnsChancesDays();
        kept();
        ofSeveralTheFirst();
        theLastCall();
        System.out.println(wrong == 0 ? checks + " edges hold" : wrong + " of " + checks + " edges do not hold");
        if (wrong != 0) {
            System.exit(1);
        }
    }

    private static void terms() {
        newObject();
        primes();
        powersOfTheNumber();
        lowerNumberIsThere();
        upperNumberHasRoom();
        onceOnes();
        shyOnes();
        eagerOnes();
        lastOnes();
        endedTillADeed();
    }

    private static void rows() {
        letters();
        lengthOfTheText();
        wipe();
        figures();
        numbersOfTheText();
        kindsOfTheText();
        eightFractions();
        startNumber();
        unfinishedItems();
        placeOfTheFault();
        lay();
        fraction();
        number();
    }

    private static void deeds() {
        steps();
        stepsTill999();
        multiply();
        move();
        drop();
        undoneOnes();
        lastEightDeeds();
    }

    private static void whatComes() {
        power();
        used();
        rests();
        beyondStep999();
        round();
        roundIsAlikeInAll();
        greatest();
        often();
    }

    private static void whatItNeeds() {
        needed();
        order();
        ordersOfFive();
        map();
        sources();
        whence();
        whenceAtTheBounds();
    }

    private static void ofWhichKind() {
        see();
        forget();
        kinds();
        look();
        lookAtTheTwentieth();
    }

    private static void turnsChancesDays() {
        duel();
        duelAt999();
        odds();
        day();
        dayAt999();
        dayOfOneFraction();
    }

    private static void kept() {
        keep();
        back();
        count();
    }

    // ---- objects, and what can be seen of them

    private static void check(boolean holds, String what) {
        checks++;
        if (!holds) {
            wrong++;
            System.out.println(what);
        }
    }

    /** An object and how many calls it had: what those beyond 512 answer is free, so no test may lean on them. */
    private static final class Watched {
        private static final int MOST_CALLS = 512;
        private static final Map<String, Method> METHODS = new HashMap<>();
        private final FractionRun it = new FractionRun();
        private int calls = 0;

        static {
            for (Method method : FractionRun.class.getDeclaredMethods()) {
                METHODS.put(method.getName(), method);
            }
        }

        int call(String name, int... args) {
            calls++;
            if (calls > MOST_CALLS) {
                throw new IllegalStateException("this test makes more than 512 calls of one object");
            }
            Object[] boxed = Arrays.stream(args).boxed().toArray();
            try {
                return (Integer) METHODS.get(name).invoke(it, boxed);
            } catch (InvocationTargetException e) {
                check(false, told(name, args) + " threw " + e.getCause());
                return HIGHEST;
            } catch (IllegalAccessException e) {
                throw new IllegalStateException(e);
            }
        }
    }

    private static String told(String name, int... args) {
        return name + Arrays.toString(args).replace('[', '(').replace(']', ')');
    }

    /** What the calls answer that change nothing. */
    private static List<Integer> looks(Watched x) {
        List<Integer> all = shortLooks(x);
        int many = x.call("count", 0);
        for (int f = 0; f < many; f++) {
            for (int what : new int[] {0, 1, 2, 5}) {
                all.add(x.call("fraction", f, what));
            }
            all.add(x.call("kinds", f));
        }
        for (int n = 1; n <= 4; n++) {
            all.add(x.call("used", n));
        }
        for (String name : new String[] {"fault", "rests", "needed", "whence"}) {
            all.add(x.call(name));
        }
        all.add(x.call("order", -1));
        all.add(x.call("order", 0));
        all.add(x.call("round", 0));
        all.add(x.call("look", 0, 0));
        all.add(x.call("look", many - 1, 1));
        all.add(x.call("power", 0, 200));
        all.add(x.call("greatest", 1));
        all.add(x.call("often", 0));
        all.add(x.call("map", 9, 1));
        all.add(x.call("duel", 1));
        all.add(x.call("odds", 8, 3, 0));
        all.add(x.call("day", 5, 40, 1));
        return all;
    }

    private static List<Integer> shortLooks(Watched x) {
        List<Integer> all = new ArrayList<>();
        for (int what = 0; what < 10; what++) {
            all.add(x.call("count", what));
        }
        for (int prime = 0; prime < 6; prime++) {
            all.add(x.call("number", prime));
        }
        for (int f = 0; f < all.get(0); f++) {
            all.add(x.call("fraction", f, 3));
            all.add(x.call("fraction", f, 4));
        }
        return all;
    }

    /** What comes to light when a call is made till it is refused. */
    private static List<Integer> uncovered(Watched x, String name) {
        List<Integer> all = new ArrayList<>();
        for (int i = 0; i < 10 && x.call(name) != NO; i++) {
            all.addAll(shortLooks(x));
        }
        return all;
    }

    /** A run of calls on a new object, which can be made again, so that one object can be held beside another. */
    private static final class Scene {
        private static final int VIEWS = 4;
        private final List<String> names = new ArrayList<>();
        private final List<int[]> args = new ArrayList<>();
        private final Watched now = new Watched();
        private List<List<Integer>> views = null;

        Scene with(String name, int... numbers) {
            names.add(name);
            args.add(numbers);
            views = null;
            now.call(name, numbers);
            return this;
        }

        Scene times(int times, String name, int... numbers) {
            for (int i = 0; i < times; i++) {
                with(name, numbers);
            }
            return this;
        }

        Scene put(String text) {
            for (char letter : text.toCharArray()) {
                with("write", letter);
            }
            return this;
        }

        /** The power of a prime goes up by so many, by calls of nine at most. */
        Scene raised(int prime, int by) {
            times(by / 9, "multiply", prime, 9);
            return by % 9 == 0 ? this : with("multiply", prime, by % 9);
        }

        /** A call that does something: its answer; it is then part of the scene. */
        Scene does(int want, String name, int... numbers) {
            names.add(name);
            args.add(numbers);
            views = null;
            int got = now.call(name, numbers);
            check(got == want, told(name, numbers) + " answered " + got + ", due is " + want + "; behind " + this);
            return this;
        }

        /** A call that changes nothing: its answer, and that all is as it was. */
        Scene stays(int want, String name, int... numbers) {
            if (views == null) {
                views = viewsBehind(null);
            }
            is(want, name, numbers);
            List<List<Integer>> then = viewsBehind(y -> y.call(name, numbers));
            check(then.equals(views), told(name, numbers) + " changed something; behind " + this);
            return this;
        }

        /** None of the numbers just outside, and far outside, of those that are told for an argument is taken. */
        Scene staysBadAround(int least, int most, int argument, String name, int... numbers) {
            for (int value : new int[] {least - 1, most + 1, LOWEST, HIGHEST}) {
                int[] others = numbers.clone();
                others[argument] = value;
                stays(BAD, name, others);
            }
            return this;
        }

        /** The answer alone, of a call that others show to change nothing. */
        Scene is(int want, String name, int... numbers) {
            int got = again().call(name, numbers);
            check(got == want, told(name, numbers) + " answered " + got + ", due is " + want + "; behind " + this);
            return this;
        }

        Scene number(int... powers) {
            for (int prime = 0; prime < 6; prime++) {
                is(prime < powers.length ? powers[prime] : 0, "number", prime);
            }
            return this;
        }

        Scene row(int... fractions) {
            is(fractions.length, "count", 1);
            for (int place = 0; place < fractions.length; place++) {
                is(place, "fraction", fractions[place], 3);
            }
            return this;
        }

        Scene counts(int... counts) {
            for (int what = 0; what < counts.length; what++) {
                is(counts[what], "count", what);
            }
            return this;
        }

        private Watched again() {
            Watched x = new Watched();
            for (int i = 0; i < names.size(); i++) {
                x.call(names.get(i), args.get(i));
            }
            return x;
        }

        private interface Deed {
            void on(Watched x);
        }

        private List<List<Integer>> viewsBehind(Deed deed) {
            List<List<Integer>> all = new ArrayList<>();
            for (int view = 0; view < VIEWS; view++) {
                Watched x = again();
                if (deed != null) {
                    deed.on(x);
                }
                all.add(switch (view) {
                    case 0 -> looks(x);
                    case 1 -> uncovered(x, "undo");
                    case 2 -> uncovered(x, "back");
                    default -> behindLay(x);
                });
            }
            return all;
        }

        private static List<Integer> behindLay(Watched x) {
            List<Integer> all = new ArrayList<>(List.of(x.call("lay")));
            all.addAll(looks(x));
            return all;
        }

        @Override
        public String toString() {
            StringBuilder text = new StringBuilder();
            for (int i = 0; i < names.size(); i++) {
                boolean letter = names.get(i).equals("write") && args.get(i)[0] >= 32 && args.get(i)[0] < 127;
                text.append(letter ? "" + (char) args.get(i)[0] : " " + told(names.get(i), args.get(i)));
            }
            return text.toString();
        }
    }

    private static Scene laid(String text) {
        int fractions = (int) text.chars().filter(c -> c == 'f').count();
        return new Scene().put(text).does(fractions, "lay");
    }

    /** 1 by 1, of these kinds: such as can be used for ever, if their kind has them. */
    private static String ones(String kinds) {
        StringBuilder text = new StringBuilder();
        for (char kind : kinds.toCharArray()) {
            text.append("f1,1,").append(kind).append(';');
        }
        return text.toString();
    }

    /** A number that rests behind n steps: 2 to the power of n, halved. */
    private static Scene halves(int n) {
        return laid("f1,2,0;").raised(0, n);
    }

    /** All is in use: deeds to undo, something seen, one kept, one left out, a text that is no more the one laid. */
    private static Scene busy() {
        return laid("f3,2,0;f5,3,1;f7,2,2;f2,5,3;f11,7,4;f13,121,5;s720;").does(3, "steps", 3).does(2, "multiply", 3, 2)
            .does(1, "keep").does(4, "move", 4, 1).does(5, "drop", 2).does(1, "see", 1, 0).does(2, "see", 9, 8)
            .put("s6;").stays(0, "count", 9).stays(0, "count", 4);
    }

    /** An END one was used. */
    private static Scene ended() {
        return laid("f1,2,5;f1,3,0;s144;").does(1, "steps", 5).stays(1, "count", 9);
    }

    // ---- terms

    /** "As told." */
    private static void newObject() {
        Scene x = new Scene().counts(6, 6, 0, 5, 0, 0, 0, 0, 0, 0).number(3, 2).row(0, 1, 2, 3, 4, 5);
        x.stays(NONE, "fault").stays(NO, "lay").stays(NO, "undo").stays(NO, "back").stays(0, "whence").stays(26, "rests");
        for (int f = 0; f < 6; f++) {
            x.is(0, "fraction", f, 4).is(63, "kinds", f);
        }
        x.stays(BAD, "fraction", 6, 4).does(0, "wipe").does(0, "forget");
    }

    /** "PRIMES 0 to 5 are 2, 3, 5, 7, 11, 13." */
    private static void primes() {
        for (int prime = 0; prime < 6; prime++) {
            int[] powers = new int[6];
            powers[prime] = 1;
            laid("f1,1,0;s" + PRIMES[prime] + ";").number(powers).does(2, "multiply", prime, 1)
                .stays(2, "power", prime, 1).stays(2, "greatest", prime).is(2, "number", prime);
        }
        busy().staysBadAround(0, 5, 0, "number", 0).staysBadAround(0, 5, 0, "multiply", 0, 1)
            .staysBadAround(0, 5, 0, "power", 0, 1).staysBadAround(0, 5, 0, "greatest", 0)
            .staysBadAround(0, 5, 1, "map", 1, 0).staysBadAround(0, 5, 0, "sources", 0, 0, 0);
        laid("f13,2,0;").stays(0, "map", 3, 0).stays(3, "map", 3, 5).stays(1, "sources", 5, 3, 0)
            .stays(41, "sources", 0, 0, 0);
    }

    /** "THE NUMBER is told by its POWERS (0 to 999 each)"; "NO: it would be below 0, above 999." */
    private static void powersOfTheNumber() {
        for (int prime = 0; prime < 6; prime++) {
            laid("f1,1,0;").raised(prime, 990).does(991, "multiply", prime, 1).stays(NO, "multiply", prime, 9)
                .does(990, "multiply", prime, -1).does(999, "multiply", prime, 9).stays(NO, "multiply", prime, 1)
                .does(998, "multiply", prime, -1).stays(NO, "multiply", prime, 2).does(999, "multiply", prime, 1)
                .stays(NO, "multiply", prime, 9).is(999, "number", prime);
            laid("f1,1,0;").does(9, "multiply", prime, 9).does(8, "multiply", prime, -1).stays(NO, "multiply", prime, -9)
                .does(9, "multiply", prime, 1).does(0, "multiply", prime, -9).stays(NO, "multiply", prime, -1)
                .does(1, "multiply", prime, 1).stays(NO, "multiply", prime, -2).does(0, "multiply", prime, -1)
                .stays(NO, "multiply", prime, -9).is(0, "number", prime);
        }
    }

    /** "each POWER of its lower number is no more than THE NUMBER's" */
    private static void lowerNumberIsThere() {
        for (int prime = 0; prime < 6; prime++) {
            int square = PRIMES[prime] * PRIMES[prime];
            laid("f1," + square + ",0;s" + PRIMES[prime] + ";").stays(0, "fraction", 0, 5).stays(0, "rests")
                .is(1, "count", 4).stays(NO, "steps", 1).does(2, "multiply", prime, 1).stays(1, "fraction", 0, 5)
                .stays(1, "rests").is(0, "count", 4).does(1, "steps", 9).is(0, "number", prime);
        }
        laid("f1,6,0;s2;").is(0, "fraction", 0, 5).does(0, "multiply", 0, -1).does(1, "multiply", 1, 1)
            .is(0, "fraction", 0, 5).does(1, "multiply", 0, 1).is(1, "fraction", 0, 5);
    }

    /** "none of THE NUMBER's would be above 999 then" */
    private static void upperNumberHasRoom() {
        for (int prime = 0; prime < 6; prime++) {
            int p = PRIMES[prime];
            laid("f" + p * p + ",1,0;").raised(prime, 997).stays(1, "fraction", 0, 5).stays(1, "rests")
                .does(1, "steps", 2).is(999, "number", prime).stays(0, "fraction", 0, 5).stays(NO, "steps", 1)
                .does(998, "multiply", prime, -1).stays(0, "fraction", 0, 5).stays(NO, "steps", 1).is(1, "count", 4)
                .does(997, "multiply", prime, -1).is(1, "fraction", 0, 5);
            laid("f" + p + "," + p + ",0;").raised(prime, 999).is(1, "fraction", 0, 5).is(NONE, "rests");
        }
        laid("f3,2,0;s4;").raised(1, 999).is(0, "fraction", 0, 5).does(998, "multiply", 1, -1).is(1, "fraction", 0, 5)
            .does(1, "steps", 2).number(1, 999);
    }

    /** "a ONCE one, if, besides, it was not USED yet" */
    private static void onceOnes() {
        laid("f1,2,1;s8;").is(1, "fraction", 0, 5).does(1, "steps", 50).is(1, "fraction", 0, 4).is(0, "fraction", 0, 5)
            .is(1, "count", 4).stays(NO, "steps", 1).does(4, "multiply", 0, 2).is(0, "fraction", 0, 5).does(1, "undo")
            .is(0, "fraction", 0, 5).does(0, "undo").is(0, "fraction", 0, 4).is(1, "fraction", 0, 5).does(1, "steps", 50)
            .does(1, "lay").is(1, "fraction", 0, 5);
    }

    /** "a SHY one, if, besides, the STEP has an even number"; "STEPS are numbered from 0 on." */
    private static void shyOnes() {
        laid("f1,2,2;f1,3,0;s216;").is(1, "fraction", 0, 5).is(0, "used", 1).is(1, "used", 2).is(0, "used", 3)
            .does(1, "steps", 1).is(0, "fraction", 0, 5).is(1, "used", 1).does(3, "multiply", 0, 1)
            .is(0, "fraction", 0, 5).does(1, "steps", 1).is(1, "fraction", 0, 5).is(0, "used", 1).is(1, "used", 2);
        laid("f1,2,2;s8;").does(1, "steps", 50).stays(NO, "steps", 1).is(1, "count", 4).does(0, "undo").is(1, "rests");
        laid("f1,1,2;f1,1,0;").times(19, "steps", 50).does(48, "steps", 48).is(1, "fraction", 0, 5).is(0, "used", 1)
            .does(1, "steps", 50).is(0, "fraction", 0, 5).is(1, "used", 1).is(0, "used", 2);
    }

    /** "an EAGER one is USED once more in the same STEP, if it still CAN be" */
    private static void eagerOnes() {
        laid("f1,2,3;s2;").is(1, "often", 0).is(1, "rests").does(1, "steps", 1).number();
        laid("f1,2,3;s4;").is(2, "often", 0).is(1, "rests").does(1, "steps", 1).number();
        laid("f1,2,3;s8;").is(3, "often", 0).is(2, "rests").does(1, "steps", 1).number(1);
        laid("f2,1,3;").raised(0, 996).does(1, "steps", 1).is(998, "number", 0).does(1, "steps", 50).is(999, "number", 0)
            .stays(NO, "steps", 1).does(997, "multiply", 0, -2).is(2, "often", 0).does(1, "steps", 50)
            .is(999, "number", 0);
    }

    /** "those that are no LAST ones as they lie in THE ROW, then LAST ones as they lie" */
    private static void lastOnes() {
        laid("f1,2,4;f1,3,4;f1,5,0;s30;").is(2, "used", 1).is(0, "used", 2).is(1, "used", 3).stays(NONE, "used", 4)
            .does(1, "move", 1, 0).is(2, "used", 1).is(1, "used", 2).is(0, "used", 3);
        laid("f1,2,4;f1,2,0;s2;").is(1, "used", 1).does(1, "drop", 1).is(0, "used", 1);
    }

    /** "it is ENDED, and RESTS till a DEED that is no STEP. While it RESTS there are no STEPS." */
    private static void endedTillADeed() {
        ended().counts(2, 2, 1, 5, 1, 1, 0, 0, 19, 1).stays(0, "fraction", 0, 5).stays(0, "fraction", 1, 5)
            .stays(0, "rests").stays(NONE, "used", 1).stays(3, "power", 0, 1).stays(NO, "steps", 1)
            .stays(NO, "multiply", 2, -1).stays(BAD, "multiply", 0, 0).stays(BAD, "multiply", 0, 10)
            .stays(NO, "move", 0, 0).stays(BAD, "move", 0, 2).stays(BAD, "drop", 2).stays(NO, "back");
        ended().does(1, "keep").does(1, "see", 1, 8).does(1, "forget").does(19, "wipe").does(1, "write", 'f')
            .stays(NO, "lay").is(1, "count", 9);
        ended().does(1, "multiply", 4, 1).is(0, "count", 9).is(0, "count", 4).does(1, "undo").is(1, "count", 9);
        ended().does(2, "multiply", 0, -1).is(0, "count", 9).does(1, "steps", 5).is(1, "count", 9);
        ended().does(1, "move", 1, 0).is(0, "count", 9).is(1, "used", 1);
        ended().does(1, "drop", 0).is(0, "count", 9).is(1, "fraction", 1, 5);
        ended().does(2, "lay").is(0, "count", 9);
        ended().does(0, "undo").is(0, "count", 9).is(0, "used", 1);
    }

    // ---- rows

    /** "A letter (32 to 126, as in ASCII)" */
    private static void letters() {
        busy().is(54, "count", 8).staysBadAround(32, 126, 0, "write", 32).stays(BAD, "write", 0).stays(BAD, "write", 10)
            .stays(BAD, "write", 's' + 256).stays(BAD, "write", 's' + 65536).does(55, "write", 32).does(56, "write", 126);
        for (int letter = -300; letter < 700; letter++) {
            int got = new FractionRun().write(letter);
            check(got == (letter >= 32 && letter <= 126 ? 1 : BAD), "write(" + letter + ") answered " + got);
        }
    }

    /** "A TEXT is letters (200 at most)"; "BAD; FULL." */
    private static void lengthOfTheText() {
        String text = "f1,2,0;" + "s006;".repeat(38) + "s8";
        new Scene().put(text).is(199, "count", 8).stays(197, "fault").stays(NO, "lay").does(200, "write", ';')
            .stays(FULL, "write", ';').stays(FULL, "write", 'f').stays(BAD, "write", 31).stays(BAD, "write", 127)
            .stays(NONE, "fault").does(1, "lay").number(3).is(200, "count", 8).stays(FULL, "write", 's').does(200, "wipe")
            .does(1, "write", 's');
        for (char letter : ",8sf".toCharArray()) {
            new Scene().put(text).does(200, "write", letter).stays(197, "fault").stays(NO, "lay")
                .stays(FULL, "write", ';');
        }
    }

    /** "THE TEXT is empty: how long it was." */
    private static void wipe() {
        new Scene().does(0, "wipe").put("s").does(1, "wipe").does(0, "wipe").stays(NONE, "fault").stays(NO, "lay");
        // What was wiped is not read again.
        new Scene().put("s1;f1,1,0;").does(10, "wipe").put("s1").stays(0, "fault").put(";f1,1,0").stays(3, "fault")
            .stays(NO, "lay").does(10, "write", ';').does(1, "lay");
        busy().counts(6, 5, 3, 9, 0, 4, 1, 2, 54, 0).does(54, "wipe").counts(6, 5, 3, 9, 0, 4, 1, 2, 0, 0)
            .number(1, 5, 1, 2).row(0, 4, 1, 3, 5).stays(NO, "lay").put("f1,1,0;").does(1, "lay");
    }

    /** The FAULT of a text, what LAID answers, and that both change nothing if it is NO. */
    private static void dueFault(int want, String text) {
        Scene x = laid("f3,2,0;f5,2,1;s24;").does(1, "steps", 1).does(1, "keep").does(1, "see", 1, 0).does(18, "wipe")
            .put(text).stays(want, "fault");
        int fractions = (int) text.chars().filter(c -> c == 'f').count();
        if (want != NONE || fractions == 0) {
            x.stays(NO, "lay");
        } else {
            x.does(fractions, "lay").is(fractions, "count", 0).is(fractions, "count", 1).stays(NONE, "fault");
        }
    }

    /** "numbers (one to three figures)" */
    private static void figures() {
        dueFault(0, "f,1,0;");
        dueFault(0, "f1,,0;");
        dueFault(0, "f1,1,;");
        dueFault(0, "s;");
        dueFault(NONE, "f1,1,0;s1;");
        dueFault(NONE, "f01,01,00;s01;");
        dueFault(NONE, "f001,001,000;s001;");
        dueFault(0, "f0001,1,0;");
        dueFault(0, "f1,0001,0;");
        dueFault(0, "f1,1,0000;");
        dueFault(0, "s0001;");
        // 47 and 58 are the letters just ahead of the figures and just behind them.
        for (char letter : new char[] {47, 58, '-', '+', ' ', '.', 'x'}) {
            dueFault(0, "f" + letter + "1,1,0;");
            dueFault(0, "f1," + letter + ",0;");
            dueFault(0, "f1,1,1" + letter + ";");
            dueFault(0, "s" + letter + ";");
        }
    }

    /** "U by L (1 to 999 each, of no primes but PRIMES)"; "N at first (1 to 999, of no primes but PRIMES" */
    private static void numbersOfTheText() {
        for (int n : new int[] {0, 17, 19, 34, 221, 289, 999, 1000}) {
            dueFault(0, "f" + n + ",1,0;");
            dueFault(0, "f1," + n + ",0;");
            dueFault(7, "f1,1,0;s" + n + ";");
        }
        // 990 is the greatest number below 1000 of no primes but PRIMES.
        for (int n : new int[] {1, 2, 13, 169, 512, 729, 990}) {
            dueFault(NONE, "f" + n + ",1,0;");
            dueFault(NONE, "f1," + n + ",0;");
            dueFault(NONE, "f1,1,0;s" + n + ";");
        }
        for (int n = 0; n <= 1001; n++) {
            int want = n >= 1 && n <= 999 && isOfPrimes(n) ? NONE : 0;
            for (String text : new String[] {"f" + n + ",1,0;", "f1," + n + ",0;", "s" + n + ";"}) {
                FractionRun x = new FractionRun();
                text.chars().forEach(x::write);
                check(x.fault() == want, "fault of " + text + " is not " + want);
            }
        }
    }

    private static boolean isOfPrimes(int n) {
        int left = n;
        for (int prime : PRIMES) {
            while (left % prime == 0) {
                left /= prime;
            }
        }
        return left == 1;
    }

    /** "of KIND K (0 PLAIN, 1 ONCE, 2 SHY, 3 EAGER, 4 LAST, 5 END)" */
    private static void kindsOfTheText() {
        for (int kind = 0; kind <= 5; kind++) {
            dueFault(NONE, "f1,1," + kind + ";");
            laid("f1,1," + kind + ";").is(kind, "fraction", 0, 0);
            laid("f1,1,00" + kind + ";").is(kind, "fraction", 0, 0);
        }
        for (String kind : new String[] {"6", "7", "8", "9", "006", "10", "010", "50", "100", "999", "-1"}) {
            dueFault(0, "f1,1," + kind + ";");
        }
    }

    /** "8 at most, 0, 1, .." */
    private static void eightFractions() {
        String eight = ones("01234501");
        dueFault(NONE, ones("0123450"));
        dueFault(NONE, eight);
        dueFault(NONE, eight + "s3;");
        dueFault(56, eight + "f1,1,0;");
        dueFault(59, eight + "s3;f1,1,0;s4;");
        dueFault(56, eight + "s17;f1,1,0;");
        laid(eight).stays(1, "fraction", 7, 0).stays(7, "fraction", 7, 3).staysBadAround(0, 7, 0, "fraction", 0, 0)
            .counts(8, 8, 0, 0, 0, 0, 0, 0, 56, 0);
    }

    /** "1 without; the last one" */
    private static void startNumber() {
        laid("f1,1,0;").number();
        laid("f1,1,0;s1;").number();
        laid("s4;f1,1,0;").number(2);
        laid("s4;f1,1,0;s9;").number(0, 2);
        laid("s4;s5;f1,1,0;s9;s990;").number(1, 2, 1, 0, 1);
        laid("s990;f1,1,0;s1;").number();
        laid("f1,1,0;s990;").does(12, "wipe").put("f1,1,0;").does(1, "lay").number();
        laid("f1,1,0;s990;").put("s17;").stays(12, "fault").does(16, "wipe").put("f1,1,0;").does(1, "lay").number();
    }

    /** "and a ; behind the last one": an item that is not at its end is not so. */
    private static void unfinishedItems() {
        String text = "s12;f45,2,3;s9;f1,1,0;";
        for (int length = 0; length <= text.length(); length++) {
            String begun = text.substring(0, length);
            int start = begun.lastIndexOf(';') + 1;
            dueFault(start == length ? NONE : start, begun);
        }
    }

    /** "the place of the first letter of the first ITEM that is not so" */
    private static void placeOfTheFault() {
        dueFault(0, "x");
        dueFault(0, ";");
        dueFault(0, " f1,1,0;");
        dueFault(0, "F1,1,0;");
        dueFault(0, "S1;");
        dueFault(0, "1,1,0;");
        dueFault(0, "ff1,1,0;");
        dueFault(0, "f1,1;");
        dueFault(0, "f1;");
        dueFault(0, "f1,1,0,;");
        dueFault(0, "f1,1,0,0;");
        dueFault(0, "f1;1;0;");
        dueFault(0, "s1,;");
        dueFault(0, "s1,1;");
        dueFault(7, "f1,1,0; ");
        dueFault(7, "f1,1,0;;");
        dueFault(7, "f1,1,0;f1,1,6;");
        dueFault(10, "s1;f1,1,0;s0;");
        dueFault(3, "s1;f1,1,6;s0;");
        dueFault(3, "s1;f17,1,0;f1,1,6;x");
    }

    /** "LAID: how many FRACTIONS; STEP 0 is next, nothing SEEN, UNDONE, KEPT, not ENDED; THE TEXT stays." */
    private static void lay() {
        busy().does(6, "lay").counts(6, 6, 0, 2, 0, 0, 0, 0, 54, 0).number(1, 1).row(0, 1, 2, 3, 4, 5).stays(NO, "undo")
            .stays(NO, "back").is(0, "fraction", 0, 4).is(63, "kinds", 0).stays(0, "whence").does(6, "lay");
        laid(ones("000")).does(0, "move", 0, 2).does(2, "drop", 1).row(2, 0).does(3, "lay").row(0, 1, 2);
        laid("f990,990,0;f12,18,4;f6,4,2;s2;").is(1, "fraction", 0, 1).is(1, "fraction", 0, 2).is(2, "fraction", 1, 1)
            .is(3, "fraction", 1, 2).is(3, "fraction", 2, 1).is(2, "fraction", 2, 2).is(1, "fraction", 2, 5);
        busy().does(54, "wipe").stays(NO, "lay").put("s5;").stays(NO, "lay").put("f1,1,0;").does(1, "lay")
            .number(0, 0, 1);
    }

    /** "its place in THE ROW (3; NONE) .. (5; 0: LEFT OUT, ENDED, too). BAD." */
    private static void fraction() {
        laid("f4,6,3;s3;").staysBadAround(0, 0, 0, "fraction", 0, 0).staysBadAround(0, 5, 1, "fraction", 0, 0)
            .stays(3, "fraction", 0, 0).stays(2, "fraction", 0, 1).stays(3, "fraction", 0, 2).stays(0, "fraction", 0, 3)
            .stays(0, "fraction", 0, 4).stays(1, "fraction", 0, 5);
        busy().staysBadAround(0, 5, 0, "fraction", 0, 3).stays(BAD, "fraction", 7, 0).stays(BAD, "fraction", 8, 0)
            .staysBadAround(0, 5, 1, "fraction", 2, 0);
        laid("f1,2,0;f1,3,1;s6;").does(1, "steps", 1).does(1, "multiply", 0, 1).does(1, "drop", 0)
            .stays(NONE, "fraction", 0, 3).stays(0, "fraction", 0, 5).stays(1, "fraction", 0, 4)
            .stays(2, "fraction", 0, 2).stays(0, "fraction", 1, 3).stays(1, "fraction", 1, 5);
        laid("f1,2,0;f1,3,0;s6;").stays(1, "fraction", 0, 5).stays(1, "fraction", 1, 5);
    }

    private static void number() {
        busy().stays(1, "number", 0).stays(5, "number", 1).stays(0, "number", 5);
    }

    // ---- deeds

    /** "STEPS, n (1 to 50) of them, or till it RESTS"; "BAD; NO: it RESTS" */
    private static void steps() {
        halves(60).staysBadAround(1, 50, 0, "steps", 1).does(1, "steps", 1).does(50, "steps", 50).number(9)
            .does(9, "steps", 50).stays(NO, "steps", 1).stays(NO, "steps", 50).staysBadAround(1, 50, 0, "steps", 1);
        halves(49).does(49, "steps", 50).is(1, "count", 4).stays(NO, "steps", 1);
        halves(50).does(50, "steps", 50).is(1, "count", 4).stays(NO, "steps", 50);
        halves(51).does(50, "steps", 50).is(0, "count", 4).does(1, "steps", 50).is(51, "count", 2);
        halves(0).stays(NO, "steps", 1).stays(NO, "steps", 50);
    }

    /** "or 999 there were: how many there were now"; "NO: .. there were 999." */
    private static void stepsTill999() {
        laid("f1,1,0;").times(19, "steps", 50).does(48, "steps", 48).is(998, "count", 2).does(1, "steps", 50)
            .is(999, "count", 2).is(0, "count", 4).stays(NO, "steps", 1).stays(NO, "steps", 50)
            .staysBadAround(1, 50, 0, "steps", 1).does(1, "multiply", 0, 1).stays(NO, "steps", 1).does(7, "undo")
            .does(6, "undo").is(998, "count", 2).does(1, "steps", 2).is(999, "count", 2);
        laid("f1,1,0;").times(19, "steps", 50).does(49, "steps", 49).stays(NO, "steps", 1);
        laid("f1,1,0;").times(19, "steps", 50).does(49, "steps", 50).stays(NO, "steps", 1);
    }

    /** "MULTIPLIED by a PRIME k times (1 to 9), shared by it (-9 to -1)" */
    private static void multiply() {
        busy().staysBadAround(-9, 9, 1, "multiply", 0, 1).stays(BAD, "multiply", 0, 0).stays(BAD, "multiply", 5, 0)
            .does(9, "multiply", 5, 9).does(10, "multiply", 5, 1).does(9, "multiply", 5, -1).does(0, "multiply", 5, -9)
            .counts(6, 5, 3, 9, 0, 8, 1, 2, 54, 0);
    }

    /** "BAD: the place, as many as THE ROW has, too; NO: LEFT OUT, or it is there."; "(all others as they lie)" */
    private static void move() {
        laid(ones("00000")).staysBadAround(0, 4, 0, "move", 0, 1).staysBadAround(0, 4, 1, "move", 0, 0)
            .staysBadAround(0, 4, 1, "move", 4, 0).stays(NO, "move", 0, 0).stays(NO, "move", 4, 4)
            .does(0, "move", 0, 4).row(1, 2, 3, 4, 0).does(4, "move", 0, 0).row(0, 1, 2, 3, 4).does(1, "move", 1, 3)
            .row(0, 2, 3, 1, 4).stays(NO, "move", 1, 3).does(3, "move", 1, 1).row(0, 1, 2, 3, 4).does(4, "drop", 4)
            .stays(BAD, "move", 0, 4).stays(NO, "move", 4, 0).stays(NO, "move", 4, 3).stays(BAD, "move", 4, 4)
            .stays(BAD, "move", 4, -1).does(0, "move", 0, 3).row(1, 2, 3, 0);
        laid("f1,1,0;").stays(NO, "move", 0, 0).stays(BAD, "move", 0, 1).stays(BAD, "move", 0, -1)
            .stays(BAD, "move", 1, 0);
        laid(ones("00000000")).stays(BAD, "move", 0, 8).stays(BAD, "move", 8, 0).does(0, "move", 0, 7)
            .row(1, 2, 3, 4, 5, 6, 7, 0).does(6, "move", 7, 0).row(7, 1, 2, 3, 4, 5, 6, 0).stays(NO, "move", 0, 7)
            .stays(NO, "move", 7, 0);
    }

    /** "LEFT OUT: how many are in THE ROW. BAD; NO: it is, or it is the only one." */
    private static void drop() {
        laid(ones("000")).staysBadAround(0, 2, 0, "drop", 0).does(2, "drop", 1).row(0, 2).stays(NO, "drop", 1)
            .does(1, "drop", 2).row(0).stays(NO, "drop", 0).stays(NO, "drop", 1).stays(NO, "drop", 2)
            .stays(BAD, "drop", 3).is(3, "count", 0);
        laid("f1,1,0;").stays(NO, "drop", 0).stays(BAD, "drop", 1).stays(BAD, "drop", -1);
        laid(ones("00000000")).stays(BAD, "drop", 8).does(7, "drop", 7).row(0, 1, 2, 3, 4, 5, 6).does(6, "drop", 0)
            .row(1, 2, 3, 4, 5, 6).stays(NO, "drop", 7).stays(NO, "drop", 0);
    }

    /** "UNDONE: how many more can be. NO."; "all STEPS of a call together" */
    private static void undoneOnes() {
        String text = "f1,2,5;f1,3,0;s144;";
        laid(text).stays(NO, "undo").does(1, "steps", 50).does(0, "undo").counts(2, 2, 0, 6, 0, 0, 0, 0, 19, 0)
            .number(4, 2).is(0, "fraction", 0, 4).stays(NO, "undo");
        laid(text).does(9, "multiply", 5, 9).does(0, "undo").number(4, 2).stays(NO, "undo");
        laid(text).does(0, "multiply", 0, -4).does(0, "undo").number(4, 2).stays(NO, "undo");
        laid(text).does(0, "move", 0, 1).does(0, "undo").row(0, 1).stays(NO, "undo");
        laid(text).does(1, "drop", 0).does(0, "undo").row(0, 1).is(1, "fraction", 0, 5).stays(NO, "undo");
        halves(50).does(50, "steps", 50).does(6, "undo").number(50).is(0, "count", 2).is(0, "fraction", 0, 4);
        laid(text).does(1, "see", 1, 0).does(2, "multiply", 5, 2).does(1, "keep").does(2, "see", 2, 0).put("s4;")
            .does(0, "undo").counts(2, 2, 0, 6, 0, 0, 1, 2, 22, 0).stays(NO, "undo").does(0, "back").is(2, "number", 5)
            .stays(NO, "undo");
    }

    /** "UNDONE are the latest of these (the last 8 can be" */
    private static void lastEightDeeds() {
        for (int many : new int[] {1, 7, 8, 9, 15, 16, 17, 20}) {
            Scene x = laid("f1,1,0;").times(many, "multiply", 2, 1);
            int can = Math.min(many, 8);
            x.is(can, "count", 5);
            for (int undone = 1; undone <= can; undone++) {
                x.does(can - undone, "undo").is(many - undone, "number", 2);
            }
            x.stays(NO, "undo").is(many - can, "number", 2).is(0, "count", 5);
        }
        Scene y = laid("f1,1,0;").times(8, "multiply", 2, 1).does(7, "undo").does(6, "undo").does(5, "undo")
            .times(3, "multiply", 3, 1).is(8, "count", 5).number(0, 0, 5, 3).does(1, "multiply", 4, 1).is(8, "count", 5);
        for (int left = 7; left >= 0; left--) {
            y.does(left, "undo");
        }
        y.stays(NO, "undo").number(0, 0, 1);
        // None of the eight is lost to a deed that is refused.
        laid("f1,2,0;f1,3,0;").times(8, "multiply", 2, 1).stays(NO, "steps", 1).stays(BAD, "steps", 51)
            .stays(NO, "multiply", 0, -1).stays(BAD, "multiply", 0, 10).stays(NO, "move", 0, 0).stays(BAD, "move", 0, 2)
            .stays(BAD, "drop", 2).stays(NO, "back").is(8, "count", 5);
        laid("f1,2,0;f1,3,0;").times(8, "multiply", 2, 1).does(1, "drop", 0).stays(NO, "drop", 0).stays(NO, "drop", 1)
            .stays(NO, "move", 0, 0).is(8, "count", 5).does(7, "undo").row(0, 1).number(0, 0, 8);
    }

    // ---- what comes

    /** "The POWER of a PRIME behind n (0 to 200) STEPS."; "behind n STEPS is at REST, if it RESTS ahead of that" */
    private static void power() {
        halves(200).staysBadAround(0, 200, 1, "power", 0, 0).stays(200, "power", 0, 0).stays(1, "power", 0, 199)
            .stays(0, "power", 0, 200);
        halves(201).stays(1, "power", 0, 200).stays(201, "power", 0, 0);
        halves(3).stays(1, "power", 0, 2).stays(0, "power", 0, 3).stays(0, "power", 0, 4).stays(0, "power", 0, 200);
        laid("f13,1,0;").stays(0, "power", 5, 0).stays(200, "power", 5, 200).raised(5, 799).stays(999, "power", 5, 200)
            .stays(998, "power", 5, 199).does(800, "multiply", 5, 1).stays(999, "power", 5, 199)
            .stays(999, "power", 5, 200);
        ended().stays(3, "power", 0, 0).stays(3, "power", 0, 200);
    }

    /** "USED in the n-th STEP (1 to 200) from now on; NONE: it RESTS ahead." */
    private static void used() {
        halves(199).staysBadAround(1, 200, 0, "used", 1).stays(0, "used", 1).stays(0, "used", 199)
            .stays(NONE, "used", 200);
        halves(200).stays(0, "used", 200);
        halves(0).stays(NONE, "used", 1).stays(NONE, "used", 200);
        halves(1).stays(0, "used", 1).stays(NONE, "used", 2);
        ended().stays(NONE, "used", 1).staysBadAround(1, 200, 0, "used", 1);
    }

    /** "RESTS: behind how many STEPS (0 to 200) it RESTS first; none." */
    private static void rests() {
        halves(0).stays(0, "rests");
        halves(1).stays(1, "rests");
        halves(199).stays(199, "rests");
        halves(200).stays(200, "rests");
        halves(201).stays(NONE, "rests");
        ended().stays(0, "rests");
    }

    /** "What comes, nothing else being done (beyond STEP 999, too)" */
    private static void beyondStep999() {
        laid("f3,2,0;f2,3,0;s2;").times(20, "steps", 50).is(999, "count", 2).number(0, 1).stays(1, "used", 1)
            .stays(0, "used", 200).stays(1, "power", 0, 1).stays(NONE, "rests").stays(0, "round", 0).stays(2, "round", 1)
            .stays(100, "often", 0).stays(1, "greatest", 0).stays(200, "duel", 0).does(1, "see", 60, 0)
            .is(29, "kinds", 0);
        laid("f1,1,0;f1,2,0;s8;").times(20, "steps", 50).does(1, "drop", 0).stays(3, "rests").stays(3, "duel", 0)
            .stays(2, "needed").stays(3, "order", -1).stays(NO, "steps", 1).is(0, "count", 4);
    }

    private static Scene far(int twos) {
        return laid("f1,2,0;f5,3,0;f3,5,0;s3;").raised(0, twos);
    }

    /** "of all two numbers of STEPS (0 to 200) .. none (if it RESTS, too)." */
    private static void round() {
        far(0).staysBadAround(0, 1, 0, "round", 0).stays(2, "round", 0).stays(2, "round", 1);
        far(1).stays(3, "round", 0).stays(2, "round", 1);
        far(196).stays(198, "round", 0).stays(2, "round", 1);
        far(197).stays(NONE, "round", 0).stays(NONE, "round", 1).staysBadAround(0, 1, 0, "round", 0);
        for (int n : new int[] {0, 1, 199, 200, 201}) {
            halves(n).stays(NONE, "round", 0).stays(NONE, "round", 1);
        }
        halves(3).staysBadAround(0, 1, 0, "round", 0);
        ended().stays(NONE, "round", 0).stays(NONE, "round", 1);
        // 66 twos become threes by two steps each, a step parts that from 66 steps back, and one more from the beginning.
        Scene whole = laid("f21,10,0;f5,7,0;f11,5,0;f2,3,0;f5,11,0;s40;").raised(0, 63).stays(NONE, "round", 0)
            .times(4, "steps", 50).number(66, 0, 1).stays(0, "round", 0).stays(200, "round", 1);
        whole.does(67, "multiply", 0, 1).stays(NONE, "round", 0).stays(NONE, "round", 1);
    }

    /** "behind which all is alike (POWERS, FRACTIONS that were USED, whether the number of the next STEP is even)" */
    private static void roundIsAlikeInAll() {
        laid("f1,1,0;").stays(1, "round", 0).stays(2, "round", 1).does(1, "steps", 1).stays(0, "round", 0)
            .stays(2, "round", 1);
        laid("f1,1,1;f1,1,0;").stays(2, "round", 0).stays(2, "round", 1).does(2, "steps", 2).stays(0, "round", 0);
        laid("f2,1,0;").stays(NONE, "round", 0).stays(NONE, "round", 1);
        // 999 threes and 512 fewer, 128 steps later, are not alike.
        laid("f1,81,0;s2;").raised(1, 999).stays(NONE, "round", 0).stays(NONE, "round", 1);
        // Three steps bring the number back, six the number and the evenness.
        laid("f3,2,0;f5,3,0;f2,5,0;s2;").stays(3, "round", 0).stays(6, "round", 1);
    }

    /** A number whose power of 3 changes in the step behind so many. */
    private static Scene threeBehind(int steps) {
        return laid("f1,2,0;f3,1,1;").raised(0, steps);
    }

    /** "The greatest POWER of a PRIME behind any of 0 to 200 STEPS." */
    private static void greatest() {
        laid("f2,1,0;").stays(200, "greatest", 0).raised(0, 799).stays(999, "greatest", 0).does(800, "multiply", 0, 1)
            .stays(999, "greatest", 0);
        halves(9).stays(9, "greatest", 0);
        halves(0).stays(0, "greatest", 0).stays(0, "greatest", 5);
        threeBehind(199).stays(1, "greatest", 1).stays(1, "power", 1, 200).stays(200, "rests");
        threeBehind(200).stays(0, "greatest", 1).stays(0, "power", 1, 200).stays(NONE, "rests");
    }

    /** "How often a FRACTION is USED in 200 STEPS (twice in a STEP, too)." */
    private static void often() {
        laid(ones("00")).staysBadAround(0, 1, 0, "often", 0).stays(200, "often", 0).stays(0, "often", 1)
            .does(1, "drop", 0).stays(0, "often", 0).stays(200, "often", 1);
        laid("f1,1,3;").stays(400, "often", 0);
        laid(ones("00000000")).stays(0, "often", 7).stays(BAD, "often", 8);
        halves(199).stays(199, "often", 0);
        halves(201).stays(200, "often", 0);
        threeBehind(199).stays(1, "often", 1);
        threeBehind(200).stays(0, "often", 1);
        ended().stays(0, "often", 0).stays(0, "often", 1);
    }

    // ---- what it needs

    /** "NEEDED, if it RESTS by 200 STEPS (else none) .. LEFT OUT (not ENDED then; also the only one)" */
    private static void needed() {
        halves(0).stays(0, "needed");
        halves(1).stays(1, "needed");
        halves(200).stays(1, "needed");
        halves(201).stays(NONE, "needed");
        ended().stays(3, "needed");
        // Without the end one it stays at the same number, but does not rest there.
        laid(ones("50")).stays(1, "rests").stays(1, "needed");
        // Halves alone take as many steps as there are twos, quarters alone leave a two if these are odd.
        String quartersFirst = "f1,4,0;f1,2,0;";
        laid(quartersFirst).raised(0, 200).stays(100, "rests").stays(0, "needed");
        laid(quartersFirst).raised(0, 201).stays(101, "rests").stays(3, "needed");
        laid(quartersFirst).raised(0, 202).stays(101, "rests").stays(1, "needed");
    }

    /** "behind how many STEPS (k = -1), the FRACTION at place k. NONE: also not so many. BAD: k below -1, above 7, too." */
    private static void order() {
        halves(200).staysBadAround(-1, 7, 0, "order", 0).stays(200, "order", -1).stays(0, "order", 0)
            .stays(NONE, "order", 1).stays(NONE, "order", 7);
        halves(201).stays(NONE, "order", -1).stays(NONE, "order", 0).stays(NONE, "order", 7)
            .staysBadAround(-1, 7, 0, "order", 0);
        halves(0).stays(0, "order", -1).stays(0, "order", 0);
        ended().stays(1, "order", -1).stays(0, "order", 0).stays(1, "order", 1).stays(NONE, "order", 2);
        laid("f1,2,0;f1,4,0;f1,8,0;s64;").stays(2, "order", -1).stays(2, "order", 0).stays(0, "order", 1)
            .stays(1, "order", 2).stays(NONE, "order", 3).row(0, 1, 2);
    }

    /** "of 5 FRACTIONS in THE ROW at most (else none)"; "of several the first" */
    private static void ordersOfFive() {
        String five = "f1,2,0;f1,3,0;f1,5,0;f1,7,0;f1,11,0;";
        laid(five + "s210;").does(4, "move", 4, 0).stays(4, "order", -1).stays(0, "order", 0).stays(4, "order", 4)
            .stays(NONE, "order", 5).stays(NONE, "order", 7).row(4, 0, 1, 2, 3);
        Scene six = laid(five + "f1,13,0;s210;").staysBadAround(-1, 7, 0, "order", 0);
        for (int k = -1; k <= 7; k++) {
            six.stays(NONE, "order", k);
        }
        six.does(5, "drop", 0).stays(3, "order", -1).stays(1, "order", 0).stays(5, "order", 4).stays(NONE, "order", 5);
        laid(five + "f1,13,0;s210;").does(0, "move", 0, 5).does(5, "drop", 0).stays(1, "order", 0).stays(5, "order", 4);
        // In each of these one order alone is the soonest: all six of three, and of five the first, the last, others.
        for (String text : new String[] {"f14,16,0;f5,20,0;f3,2,0;s160;", "f15,1,1;f15,4,3;f20,6,3;s48;",
            "f13,3,0;f15,26,5;f6,3,2;s90;", "f8,2,1;f6,20,5;f10,3,0;s504;", "f3,4,3;f3,8,0;f12,15,0;s440;",
            "f10,8,0;f15,1,0;f4,6,5;s28;", "f3,13,0;f9,2,0;f13,15,0;f5,9,0;f4,13,2;s960;",
            "f7,30,0;f20,15,0;f20,25,0;f5,7,2;f3,2,0;s280;", "f3,1,2;f1,5,0;f20,12,0;f13,30,0;f9,6,0;s8;",
            "f15,18,0;f5,2,0;f9,15,0;f12,18,3;f11,30,0;s208;", "f16,7,5;f7,20,0;f9,1,3;f20,6,3;f8,2,0;s256;"}) {
            dueOrder(text);
        }
    }

    /** The order by moving the fractions into all orders, one by one. */
    private static void dueOrder(String text) {
        Scene scene = laid(text);
        List<int[]> all = new ArrayList<>();
        allOrders(new int[scene.again().call("count", 1)], 0, all);
        int soonest = HIGHEST;
        int[] best = {};
        for (int[] order : all) {
            Watched x = scene.again();
            for (int place = 0; place < order.length; place++) {
                x.call("move", order[place], place);
            }
            int behind = x.call("rests");
            if (behind != NONE && behind < soonest) {
                soonest = behind;
                best = order;
            }
        }
        scene.stays(soonest, "order", -1);
        for (int place = 0; place < best.length; place++) {
            scene.stays(best[place], "order", place);
        }
    }

    private static void allOrders(int[] begun, int place, List<int[]> into) {
        if (place == begun.length) {
            into.add(begun.clone());
        }
        for (int f = 0; f < begun.length && place < begun.length; f++) {
            int tried = f;
            if (Arrays.stream(begun, 0, place).noneMatch(other -> other == tried)) {
                begun[place] = f;
                allOrders(begun, place + 1, into);
            }
        }
    }

    /** "MAP of a (0 to 40) .. at REST, if it RESTS by 200 STEPS; none." */
    private static void map() {
        String fiveForATwo = "f81,2,0;f1,3,0;";
        laid(fiveForATwo).staysBadAround(0, 40, 0, "map", 0, 0).staysBadAround(0, 40, 0, "map", 0, 1)
            .stays(0, "map", 0, 0).stays(0, "map", 40, 0).stays(0, "map", 40, 1);
        laid("f1,1,1;" + fiveForATwo).stays(0, "map", 39, 0).stays(NONE, "map", 40, 0)
            .staysBadAround(0, 40, 0, "map", 0, 0);
        laid("f3,2,0;").stays(0, "map", 0, 1).stays(40, "map", 40, 1).stays(39, "map", 39, 1);
        laid("f3,2,2;f5,2,5;s4;").does(2, "steps", 5).is(1, "count", 9).stays(1, "map", 1, 1).stays(0, "map", 0, 1);
        laid("f3,2,1;s2;").does(1, "steps", 1).stays(1, "map", 1, 1).stays(1, "map", 2, 0);
    }

    /** "SOURCES for a PRIME and v (0 to 999): how many (what = 0), the least (1; NONE). BAD." */
    private static void sources() {
        laid("f3,2,0;").staysBadAround(0, 999, 1, "sources", 0, 0, 0).staysBadAround(0, 1, 2, "sources", 0, 0, 0)
            .stays(1, "sources", 1, 0, 0).stays(0, "sources", 1, 0, 1).stays(1, "sources", 1, 40, 0)
            .stays(40, "sources", 1, 40, 1).stays(0, "sources", 1, 41, 0).stays(NONE, "sources", 1, 41, 1)
            .stays(41, "sources", 0, 0, 0).stays(0, "sources", 0, 999, 0).stays(NONE, "sources", 0, 999, 1);
        laid("f729,1,0;f3,1,0;").stays(41, "sources", 1, 999, 0).stays(0, "sources", 1, 999, 1)
            .stays(0, "sources", 1, 998, 0).stays(NONE, "sources", 1, 998, 1);
        laid("f1,1,1;f81,2,0;f1,3,0;").stays(40, "sources", 0, 0, 0).stays(0, "sources", 0, 0, 1);
        laid("f2,1,0;").stays(0, "sources", 0, 0, 0).stays(NONE, "sources", 0, 0, 1);
    }

    /** "FRACTIONS (bits) of THE ROW that were USED .. with it or without it .. at STEP 0 none." */
    private static void whence() {
        laid(ones("00")).stays(0, "whence").does(1, "steps", 1).stays(1, "whence").does(0, "undo").stays(0, "whence")
            .does(1, "steps", 1).does(2, "lay").stays(0, "whence").does(1, "steps", 1).does(1, "drop", 0)
            .stays(0, "whence");
        laid("f1,2,1;s4;").does(1, "steps", 1).stays(1, "whence").does(2, "multiply", 0, 1).stays(1, "whence");
        laid("f1,2,2;f1,3,0;s24;").does(1, "steps", 1).stays(1, "whence").does(1, "steps", 1).stays(2, "whence");
        ended().stays(1, "whence").does(4, "multiply", 0, 1).stays(0, "whence");
        laid(ones("00000000")).does(0, "move", 0, 7).does(6, "move", 7, 0).does(1, "steps", 1).stays(128, "whence");
    }

    /** "from some NUMBER": one whose POWERS are 0 to 999. */
    private static void whenceAtTheBounds() {
        laid("f1,2,0;").raised(0, 999).does(1, "steps", 1).stays(1, "whence").does(999, "multiply", 0, 1)
            .stays(0, "whence");
        laid("f2,1,0;").does(1, "steps", 1).stays(1, "whence").does(0, "multiply", 0, -1).stays(0, "whence");
        laid("f1,2,3;").raised(0, 999).does(1, "steps", 1).is(997, "number", 0).stays(1, "whence")
            .does(998, "multiply", 0, 1).stays(0, "whence").does(999, "multiply", 0, 1).stays(0, "whence");
        laid("f1,2,3;s2;").does(1, "steps", 1).number().stays(1, "whence").does(1, "multiply", 0, 1).stays(1, "whence");
        laid("f2,1,3;").does(1, "steps", 1).number(2).stays(1, "whence").does(1, "multiply", 0, -1).stays(0, "whence")
            .raised(0, 996).is(997, "number", 0).stays(1, "whence").does(999, "multiply", 0, 2).stays(1, "whence");
    }

    // ---- of which kind

    /** "SEEN (6 at most) is that in the n-th STEP (1 to 60)"; "BAD (f 0 to 8: 8, or such as were told); FULL." */
    private static void see() {
        Scene x = laid(ones("00")).staysBadAround(1, 60, 0, "see", 1, 0).staysBadAround(1, 60, 0, "see", 1, 8)
            .staysBadAround(0, 1, 1, "see", 1, 0).stays(BAD, "see", 1, 7).stays(BAD, "see", 1, 9);
        x.does(1, "see", 1, 0).does(2, "see", 60, 0).does(3, "see", 1, 1).does(4, "see", 60, 8).does(5, "see", 1, 8)
            .staysBadAround(1, 60, 0, "see", 1, 0).does(6, "see", 1, 8).stays(FULL, "see", 1, 0).stays(FULL, "see", 60, 8)
            .staysBadAround(1, 60, 0, "see", 1, 0).staysBadAround(0, 1, 1, "see", 1, 0).stays(BAD, "see", 1, 9)
            .is(6, "count", 7).does(6, "forget").does(1, "see", 1, 0);
        laid(ones("00000000")).does(1, "see", 1, 7).does(2, "see", 1, 8).stays(BAD, "see", 1, 9).stays(BAD, "see", 1, -1);
        laid(ones("00")).does(1, "drop", 1).does(1, "see", 1, 1);
        // None of the six is lost to a seventh one.
        halves(9).times(6, "see", 1, 0).stays(FULL, "see", 2, 0).stays(FULL, "see", 1, 8).stays(63, "kinds", 0);
    }

    /** "Nothing is SEEN: how much was." */
    private static void forget() {
        new Scene().does(0, "forget").does(1, "see", 1, 8).does(1, "forget").does(0, "forget");
        halves(3).times(6, "see", 9, 0).stays(0, "kinds", 0).does(6, "forget").does(0, "forget").is(0, "count", 7)
            .stays(63, "kinds", 0);
        busy().does(2, "forget").counts(6, 5, 3, 9, 0, 4, 1, 0, 54, 0);
    }

    /** "KINDS of a FRACTION (bits of 0 to 5), in place of its own, by which all that is SEEN is so." */
    private static void kinds() {
        laid(ones("05")).staysBadAround(0, 1, 0, "kinds", 0).stays(63, "kinds", 0).stays(63, "kinds", 1);
        laid(ones("00000000")).stays(63, "kinds", 7).stays(BAD, "kinds", 8);
        halves(59).does(1, "see", 59, 0).stays(17, "kinds", 0).does(2, "see", 60, 8).stays(17, "kinds", 0);
        halves(60).does(1, "see", 60, 0).stays(17, "kinds", 0).does(2, "see", 60, 8).stays(0, "kinds", 0);
        halves(60).does(1, "see", 60, 8).stays(46, "kinds", 0);
        halves(9).times(5, "see", 1, 0).stays(63, "kinds", 0).does(6, "see", 1, 8).stays(0, "kinds", 0);
        halves(9).times(5, "see", 1, 0).does(6, "see", 2, 8).stays(38, "kinds", 0);
        laid("f1,2,0;f1,3,0;s6;").does(1, "drop", 0).does(1, "see", 1, 1).stays(63, "kinds", 0).does(2, "see", 2, 0)
            .stays(0, "kinds", 0);
    }

    /** "LOOK: the n (what = 0), the greatest part (1). NONE; BAD."; "none, if one of them is left at most" */
    private static void look() {
        Scene x = laid("f3,2,0;f5,2,0;s16;").staysBadAround(0, 1, 0, "look", 0, 0).staysBadAround(0, 1, 1, "look", 0, 0)
            .stays(3, "look", 0, 0).stays(2, "look", 0, 1);
        x.does(1, "see", 1, 0).does(2, "see", 2, 1).stays(6, "kinds", 0).stays(3, "look", 0, 0).stays(1, "look", 0, 1);
        x.does(3, "see", 3, 0).stays(4, "kinds", 0).stays(NONE, "look", 0, 0).stays(NONE, "look", 0, 1)
            .staysBadAround(0, 1, 1, "look", 0, 0);
        x.does(4, "see", 1, 1).stays(0, "kinds", 0).stays(NONE, "look", 0, 0).stays(NONE, "look", 0, 1)
            .staysBadAround(0, 1, 0, "look", 0, 0);
        laid(ones("00000000")).stays(1, "look", 7, 0).stays(BAD, "look", 8, 0);
    }

    /** "the n (1 to 20) by which these are told apart best .. the first of several" */
    private static void lookAtTheTwentieth() {
        // Twos go first; then the one asked for tells its kind, in the step behind.
        laid("f1,3,0;f1,2,0;s9;").does(1, "move", 1, 0).raised(0, 18).stays(20, "look", 0, 0).stays(4, "look", 0, 1);
        laid("f1,3,0;f1,2,0;s9;").does(1, "move", 1, 0).raised(0, 19).stays(20, "look", 0, 0).stays(5, "look", 0, 1);
        laid("f1,3,0;f1,2,0;s9;").does(1, "move", 1, 0).raised(0, 20).stays(1, "look", 0, 0).stays(6, "look", 0, 1);
        laid("f1,3,0;f1,2,0;s2;").stays(1, "look", 0, 0).stays(6, "look", 0, 1);
        halves(2).stays(2, "look", 0, 0).stays(4, "look", 0, 1);
        laid("f1,2,0;f1,2,0;s2;").stays(1, "look", 0, 0).stays(5, "look", 0, 1);
    }

    // ---- turns, chances, days

    /** "By turns, n (0 to 4) in all"; "(200, if it does not by then)" */
    private static void duel() {
        halves(3).staysBadAround(0, 4, 0, "duel", 0).stays(3, "duel", 0).stays(4, "duel", 1).stays(4, "duel", 2)
            .stays(5, "duel", 3).stays(5, "duel", 4);
        halves(199).stays(199, "duel", 0).stays(200, "duel", 1).stays(200, "duel", 4);
        halves(200).stays(200, "duel", 0).stays(200, "duel", 1);
        halves(201).stays(200, "duel", 0).stays(200, "duel", 4);
        ended().stays(0, "duel", 0).stays(1, "duel", 1).stays(1, "duel", 2);
        // By a 3 it would end at once: so the other one has it, if there is a turn for that.
        laid("f1,3,5;f1,2,0;s512;").stays(9, "duel", 0).stays(10, "duel", 1).stays(1, "duel", 2).stays(1, "duel", 4);
        // Here by a 2, and the threes go one by one.
        laid("f1,2,5;f1,3,0;s243;").stays(5, "duel", 0).stays(6, "duel", 1).stays(1, "duel", 2).stays(1, "duel", 4);
    }

    /** "once by 2, or by 3 (as far as the POWER is below 999; a DEED), or does nothing" */
    private static void duelAt999() {
        laid("f1,512,0;").raised(0, 998).stays(110, "duel", 0).stays(111, "duel", 1).stays(111, "duel", 3);
        laid("f1,256,0;").raised(0, 998).stays(124, "duel", 0).stays(124, "duel", 3);
        laid("f1,256,0;").raised(0, 999).stays(124, "duel", 0).stays(124, "duel", 1);
        laid("f1,243,0;f1,81,0;").raised(1, 998).stays(199, "duel", 0).stays(200, "duel", 1);
        laid("f1,243,0;").raised(1, 998).stays(199, "duel", 0).stays(199, "duel", 3);
        laid("f1,243,0;").raised(1, 999).stays(199, "duel", 0).stays(199, "duel", 1);
        // What can't be multiplied is no deed, so it stays ended.
        laid("f1,1,5;").raised(0, 999).raised(1, 999).does(1, "steps", 1).stays(0, "duel", 0).stays(0, "duel", 4);
        laid("f1,1,5;").raised(0, 998).raised(1, 999).does(1, "steps", 1).stays(0, "duel", 0).stays(1, "duel", 1);
        laid("f1,1,5;").raised(0, 999).raised(1, 998).does(1, "steps", 1).stays(0, "duel", 0).stays(1, "duel", 1);
    }

    private static void dueOdds(Scene x, int f, int tenths, int above, int below) {
        x.stays(above, "odds", f, tenths, 0).stays(below, "odds", f, tenths, 1);
    }

    /** "PASSED OVER by x (0 to 10)"; "(Lowest terms; 0 by 1.)"; "BAD (f as for see())." */
    private static void odds() {
        Scene x = laid("f1,1,0;f1,2,0;f1,1,0;f1,1,0;").staysBadAround(0, 3, 0, "odds", 0, 5, 0)
            .stays(BAD, "odds", 7, 5, 0).stays(BAD, "odds", 9, 5, 0).staysBadAround(0, 10, 1, "odds", 0, 5, 0)
            .staysBadAround(0, 10, 1, "odds", 8, 5, 0).staysBadAround(0, 1, 2, "odds", 0, 5, 0)
            .staysBadAround(0, 1, 2, "odds", 8, 5, 0).does(3, "drop", 3);
        dueOdds(x, 0, 0, 1, 1);
        dueOdds(x, 0, 1, 9, 10);
        dueOdds(x, 0, 9, 1, 10);
        dueOdds(x, 0, 10, 0, 1);
        dueOdds(x, 1, 5, 0, 1);
        dueOdds(x, 2, 0, 0, 1);
        dueOdds(x, 2, 1, 9, 100);
        dueOdds(x, 2, 10, 0, 1);
        dueOdds(x, 3, 5, 0, 1);
        dueOdds(x, 8, 0, 0, 1);
        dueOdds(x, 8, 1, 1, 100);
        dueOdds(x, 8, 10, 1, 1);
        Scene eight = laid(ones("00000000")).stays(BAD, "odds", 9, 5, 0);
        dueOdds(eight, 7, 9, 4782969, 100000000);
        dueOdds(eight, 7, 1, 9, 100000000);
        dueOdds(eight, 8, 9, 43046721, 100000000);
        dueOdds(eight, 8, 1, 1, 100000000);
        dueOdds(eight, 8, 10, 1, 1);
        // The last ones come behind all others, as they lie: 1, 3, then 0, 2.
        Scene last = laid(ones("4040"));
        dueOdds(last, 1, 2, 4, 5);
        dueOdds(last, 3, 2, 4, 25);
        dueOdds(last, 0, 2, 4, 125);
        dueOdds(last, 2, 2, 4, 625);
        dueOdds(last, 8, 2, 1, 625);
        dueOdds(ended(), 0, 5, 0, 1);
        dueOdds(ended(), 8, 0, 1, 1);
        dueOdds(ended(), 8, 5, 1, 1);
    }

    private static int draw(int z, int k) {
        long x = 7919L * z + 6151L * k + 1;
        return (int) (x * x % 65521);
    }

    /** The same day by deeds, of which a day has no more than those that are not refused. */
    private static void dueDay(Scene scene, int z, int n) {
        Watched x = scene.again();
        int many = x.call("count", 1);
        int first = firstOf(x);
        int made = 0;
        for (int k = 0; k < n; k++) {
            int draw = draw(z, k);
            if (draw % 4 == 2) {
                x.call("multiply", draw / 8 % 6, 1);
            } else if (draw % 4 == 3) {
                x.call("move", first, many - 1);
                first = firstOf(x);
            } else {
                made += x.call("steps", 1) == 1 ? 1 : 0;
            }
        }
        scene.stays(made, "day", z, n, 0).is(x.call("count", 3), "day", z, n, 1).is(first, "day", z, n, 2);
    }

    private static int firstOf(Watched x) {
        for (int f = 0; f < 8; f++) {
            if (x.call("fraction", f, 3) == 0) {
                return f;
            }
        }
        return NONE;
    }

    /** "A DAY by z (0 to 9999) of n (1 to 60)"; "STEPS (what = 0), POWERS (1), the first (2). BAD." */
    private static void day() {
        Scene x = laid("f3,2,0;f5,3,3;f2,5,5;s6;").staysBadAround(0, 9999, 0, "day", 0, 1, 0)
            .staysBadAround(1, 60, 1, "day", 0, 1, 0).staysBadAround(0, 2, 2, "day", 0, 1, 0);
        for (int z : new int[] {0, 1, 9998, 9999}) {
            for (int n : new int[] {1, 2, 59, 60}) {
                dueDay(x, z, n);
            }
        }
        dueDay(ended(), 9999, 60);
        dueDay(halves(0), 0, 60);
    }

    /** All powers are 999 but for those that the caller takes back; none of these three can be used then. */
    private static Scene top(String more) {
        // Eager ones: 500 steps, 167 and 250, which is 917.
        return laid("f385,1,3;f216,1,3;f169,1,3;" + more).times(18, "steps", 50).does(17, "steps", 17)
            .does(999, "multiply", 5, 1).number(999, 999, 999, 999, 999, 999);
    }

    /** "MULTIPLIED once by PRIME (DRAW by 8, cut) modulo 6, if its POWER is below 999" */
    private static void dayAt999() {
        for (int z : new int[] {0, 3, 4711, 9999}) {
            top("").stays(0, "day", z, 60, 0).stays(5994, "day", z, 60, 1);
        }
        for (int prime = 0; prime < 6; prime++) {
            Scene x = top("").does(998, "multiply", prime, -1);
            for (int z = 0; z < 40; z++) {
                int powers = 5993;
                for (int k = 0; k < 60; k++) {
                    int draw = draw(z, k);
                    powers = draw % 4 == 2 && draw / 8 % 6 == prime ? 5994 : powers;
                    if (k == 0 || k == 29 || k == 59) {
                        x.is(powers, "day", z, k + 1, 1);
                    }
                }
            }
        }
    }

    /** "the first one of THE ROW is MOVED behind all others, if there are others"; what is not done is no DEED. */
    private static void dayOfOneFraction() {
        Scene one = laid("f1,2,5;s8;").does(1, "steps", 1);
        Scene two = laid("f1,2,5;f1,2,5;s8;").does(1, "steps", 1);
        Scene left = laid("f1,2,5;f1,2,5;s8;").does(1, "drop", 0).does(1, "steps", 1);
        for (int z = 0; z < 30; z++) {
            dueDay(one, z, 60);
            dueDay(two, z, 60);
            dueDay(left, z, 60);
        }
        Scene still = top("f1,1,5;").does(3, "drop", 0).does(2, "drop", 1).does(1, "drop", 2).does(1, "steps", 9)
            .is(1, "count", 9).is(5994, "count", 3);
        for (int z = 0; z < 10; z++) {
            still.stays(0, "day", z, 60, 0).is(5994, "day", z, 60, 1).is(3, "day", z, 60, 2);
        }
    }

    // ---- kept

    /** "KEPT is all as it stands, but what is SEEN: 2 at most."; "KEPT: how many. FULL." */
    private static void keep() {
        new Scene().does(1, "keep").does(2, "keep").stays(FULL, "keep").is(2, "count", 6).does(1, "back").does(2, "keep")
            .stays(FULL, "keep").does(1, "back").does(0, "back").stays(NO, "back").does(1, "keep");
        // Neither of the two is lost to a third one.
        busy().does(2, "keep").does(8, "multiply", 5, 8).stays(FULL, "keep").does(54, "wipe").stays(FULL, "keep")
            .does(1, "back").number(1, 5, 1, 2).is(54, "count", 8);
        busy().does(2, "keep").stays(FULL, "keep").does(6, "lay").is(0, "count", 6).stays(NO, "back").does(1, "keep");
    }

    /** "As KEPT last: how many are left; nothing is UNDONE then. NO." */
    private static void back() {
        busy().does(0, "back").counts(6, 6, 3, 9, 0, 0, 0, 2, 51, 0).number(1, 5, 1, 2).row(0, 1, 2, 3, 4, 5)
            .is(1, "fraction", 0, 4).stays(NO, "undo").stays(NO, "back").does(1, "steps", 1).does(0, "undo");
        ended().does(1, "keep").does(9, "multiply", 5, 9).does(2, "keep").does(1, "steps", 9).does(1, "drop", 1)
            .does(1, "see", 1, 8).does(1, "back").counts(2, 2, 1, 14, 0, 0, 1, 1, 19, 0).number(3, 2, 0, 0, 0, 9)
            .row(0, 1).stays(NO, "undo").does(0, "back").counts(2, 2, 1, 5, 1, 0, 0, 1, 19, 1).number(3, 2)
            .stays(NO, "undo").stays(NO, "back");
        // All is kept but what is seen, so the text is, too.
        laid("f1,1,0;").put("s6;").does(1, "keep").does(10, "wipe").put("s9").does(0, "back").is(10, "count", 8)
            .stays(NONE, "fault").does(1, "lay").number(1, 1).stays(NO, "back");
    }

    /** "How many: 0 FRACTIONS that were told .. 9 1 if it is ENDED. BAD." */
    private static void count() {
        busy().staysBadAround(0, 9, 0, "count", 0).stays(6, "count", 0).stays(0, "count", 9);
        new Scene().staysBadAround(0, 9, 0, "count", 0);
    }

    // ---- what holds for all calls

    /** "Of several the first; nothing changes then." */
    private static void ofSeveralTheFirst() {
        halves(0).stays(BAD, "steps", 0).stays(BAD, "steps", 51).stays(BAD, "multiply", 0, -10)
            .stays(BAD, "multiply", 6, -1).stays(BAD, "move", 1, 0).stays(BAD, "move", 0, 1).stays(BAD, "drop", 1)
            .stays(BAD, "round", 2).stays(BAD, "order", 8).stays(BAD, "order", -2);
        laid("f2,1,0;").stays(BAD, "map", 41, 0).stays(BAD, "map", 0, 6).stays(BAD, "round", 2).stays(BAD, "order", 8)
            .stays(BAD, "sources", 6, 0, 1).stays(BAD, "sources", 0, 1000, 1).stays(BAD, "sources", 0, 0, 2)
            .does(1, "see", 1, 8).stays(BAD, "look", 1, 0).stays(BAD, "look", 0, 2);
        laid(ones("00")).does(1, "drop", 0).stays(BAD, "move", 0, 1).stays(BAD, "fraction", 0, 6).stays(BAD, "drop", 2)
            .stays(BAD, "move", 2, 0).times(6, "see", 1, 1).stays(BAD, "see", 1, 2).stays(BAD, "see", 61, 1);
    }

    /** "An object is used for at most 512 calls": the last one of these still answers. */
    private static void theLastCall() {
        Watched x = new Watched();
        int up = 3;
        for (int i = 1; i < 512; i++) {
            int times = i % 5 == 0 ? -3 : 1;
            up += times;
            check(x.call("multiply", 0, times) == up, "call " + i);
        }
        check(x.call("number", 0) == up, "the last call");
    }
}
