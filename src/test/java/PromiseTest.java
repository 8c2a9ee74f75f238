/** What each promise of the document asks for: ordinary calls, the edges that it names, wrong inputs. */
public final class PromiseTest {
    private static final int BAD = FractionRun.BAD, NO = FractionRun.NO, FULL = FractionRun.FULL, NONE = FractionRun.NONE;
    private static int wrong = 0;

    public static void main(String[] args) {
        newObject();
        write();
        wipe();
        fault();
        lay();
        fraction();
        number();
        steps();
        kindsOfFractions();
        ended();
        multiply();
        move();
        drop();
        undo();
        power();
        used();
        rests();
        round();
        greatest();
        often();
        needed();
        order();
        map();
        sources();
        whence();
        see();
        forget();
        kinds();
        look();
        duel();
        odds();
        day();
        keep();
        back();
        count();
        System.out.println(wrong == 0 ? "all promises hold" : wrong + " answers are not as due");
        if (wrong != 0) {
            System.exit(1);
        }
    }

    private static void due(String what, int got, int want) {
        if (got != want) {
            wrong++;
            System.out.println(what + " answered " + got + ", due is " + want);
        }
    }

    private static void dueEach(String what, int want, int... got) {
        for (int i = 0; i < got.length; i++) {
            due(what + " [" + i + "]", got[i], want);
        }
    }

    private static void put(FractionRun x, String text) {
        for (char letter : text.toCharArray()) {
            x.write(letter);
        }
    }

    private static FractionRun laid(String text) {
        FractionRun x = new FractionRun();
        put(x, text);
        int fractions = 0;
        for (char letter : text.toCharArray()) {
            fractions += letter == 'f' ? 1 : 0;
        }
        due("lay of " + text, x.lay(), fractions);
        return x;
    }

    private static int faultOf(String text) {
        FractionRun x = new FractionRun();
        put(x, text);
        due("length of " + text, x.count(8), text.length());
        return x.fault();
    }

    private static void dueFault(String text, int want) {
        due("fault of " + text, faultOf(text), want);
    }

    private static void dueNumber(String what, FractionRun x, int... powers) {
        for (int prime = 0; prime < 6; prime++) {
            due(what + ", power " + prime, x.number(prime), prime < powers.length ? powers[prime] : 0);
        }
    }

    private static void dueRow(String what, FractionRun x, int... row) {
        due(what + ", length of the row", x.count(1), row.length);
        for (int place = 0; place < row.length; place++) {
            due(what + ", place of " + row[place], x.fraction(row[place], 3), place);
        }
    }

    /** A row of fractions that can all be used for ever: 1 by 1. */
    private static String ones(int many, String kinds) {
        StringBuilder text = new StringBuilder();
        for (int i = 0; i < many; i++) {
            text.append("f1,1,").append(kinds.charAt(i)).append(';');
        }
        return text.toString();
    }

    private static void newObject() {
        FractionRun x = new FractionRun();
        int[] uppers = {455, 11, 1, 3, 11, 1};
        int[] lowers = {33, 13, 11, 7, 2, 3};
        for (int f = 0; f < 6; f++) {
            due("first kind", x.fraction(f, 0), 0);
            due("first upper", x.fraction(f, 1), uppers[f]);
            due("first lower", x.fraction(f, 2), lowers[f]);
            due("first place", x.fraction(f, 3), f);
            due("first used", x.fraction(f, 4), 0);
        }
        dueNumber("first number", x, 3, 2);
        int[] counts = {6, 6, 0, 5, 0, 0, 0, 0, 0, 0};
        for (int what = 0; what < counts.length; what++) {
            due("first count " + what, x.count(what), counts[what]);
        }
        due("first fault", x.fault(), NONE);
        due("first lay", x.lay(), NO);
        due("first undo", x.undo(), NO);
        due("first back", x.back(), NO);
        due("constants", FractionRun.BAD * 1000 + FractionRun.NO * 100 + FractionRun.FULL * 10 + FractionRun.NONE, -1234);
    }

    private static void write() {
        FractionRun x = new FractionRun();
        dueEach("write of a wrong letter", BAD, x.write(31), x.write(127), x.write(-1), x.write(Integer.MAX_VALUE),
            x.write(Integer.MIN_VALUE), x.write(32 + 65536));
        due("count", x.count(8), 0);
        due("write of a blank", x.write(32), 1);
        due("write of ~", x.write(126), 2);
        for (int i = 3; i <= 200; i++) {
            due("write", x.write('a'), i);
        }
        due("write beyond 200", x.write('a'), FULL);
        due("write of a wrong letter beyond 200", x.write(31), BAD);
        due("count", x.count(8), 200);
    }

    private static void wipe() {
        FractionRun x = new FractionRun();
        due("wipe of nothing", x.wipe(), 0);
        put(x, "f1,1,0;");
        due("wipe", x.wipe(), 7);
        due("wipe", x.wipe(), 0);
        due("write", x.write('s'), 1);
        due("count(0) stays", x.count(0), 6);
        put(x, "1;f1,1,0;");
        x.wipe();
        put(x, "s1;f1,1,0");
        due("what was wiped is no more read", x.fault(), 3);
    }

    private static void fault() {
        dueFault("", NONE);
        dueFault("s5;", NONE);
        dueFault("f1,1,0;", NONE);
        dueFault("f001,999,0;", 0); // 37 is in 999
        dueFault("f001,990,005;s007;s1;", NONE);
        dueFault("f1,1,0", 0);
        dueFault("f1,1,0;f", 7);
        dueFault("f1,1,0;f2", 7);
        dueFault("f1,1,0;f2,", 7);
        dueFault("f1,1;", 0);
        dueFault("f1,1,0,;", 0);
        dueFault("f1,1,0,0;", 0);
        dueFault("f,1,0;", 0);
        dueFault("f1,,0;", 0);
        dueFault("f1;1;0;", 0);
        dueFault("f1,1,6;", 0);
        dueFault("f1,1,5;", NONE);
        dueFault("f0,1,0;", 0);
        dueFault("f1,0,0;", 0);
        dueFault("f0001,1,0;", 0);
        dueFault("f1,1,0000;", 0);
        dueFault("f-1,1,0;", 0);
        dueFault("f1,1, 0;", 0);
        dueFault(" f1,1,0;", 0);
        dueFault("f1,1,0; ", 7);
        dueFault("F1,1,0;", 0);
        dueFault("f17,1,0;", 0);
        dueFault("f1,19,0;", 0);
        dueFault("s1;s17;", 3);
        dueFault("s0;", 0);
        dueFault("s000;", 0);
        dueFault("s1,1;", 0);
        dueFault("s;", 0);
        dueFault("s", 0);
        dueFault(";", 0);
        dueFault("s1;;", 3);
        dueFault("s1000;", 0);
        dueFault("f2,1,0;s34;f17,1,0;", 7);
        dueFault(ones(8, "01234501"), NONE);
        dueFault(ones(8, "01234501") + "s3;f1,1,0;", 59);
        dueFault(ones(8, "01234501") + "f1,1,0;", 56);
    }

    private static void lay() {
        FractionRun x = new FractionRun();
        put(x, "s5;");
        due("lay without a fraction", x.lay(), NO);
        put(x, "f1,1");
        due("lay with a fault", x.lay(), NO);
        due("as it was", x.count(0), 6);
        put(x, ",0;s90;s12;f3,2,2;");
        x.steps(3);
        x.multiply(0, 1);
        x.see(1, 1);
        x.keep();
        due("lay", x.lay(), 2);
        dueNumber("the last start", x, 2, 1);
        int[] counts = {2, 2, 0, 3, 0, 0, 0, 0, 25, 0};
        for (int what = 0; what < counts.length; what++) {
            due("count behind lay " + what, x.count(what), counts[what]);
        }
        dueEach("nothing to go back to", NO, x.undo(), x.back());
        due("used", x.fraction(0, 4), 0);
        x.steps(1);
        x.drop(0);
        due("lay again", x.lay(), 2);
        dueRow("lay again", x, 0, 1);
        due("used", x.fraction(0, 4), 0);
        dueNumber("without a start", laid("f2,1,0;"));
        due("eight", laid(ones(8, "01234501")).count(1), 8);
        FractionRun e = laid("f3,2,5;s4;");
        e.steps(1);
        due("ended", e.count(9), 1);
        e.lay();
        due("not ended", e.count(9), 0);
    }

    private static void fraction() {
        FractionRun x = laid("f12,18,4;f6,6,3;f3,4,2;f2,990,0;s4;");
        int[][] want = {{4, 2, 3, 0, 0, 0}, {3, 1, 1, 1, 0, 1}, {2, 3, 4, 2, 0, 1}, {0, 1, 495, 3, 0, 0}};
        for (int f = 0; f < 4; f++) {
            for (int what = 0; what < 6; what++) {
                due("fraction(" + f + ", " + what + ")", x.fraction(f, what), want[f][what]);
            }
        }
        dueEach("fraction of wrong numbers", BAD, x.fraction(4, 0), x.fraction(-1, 0), x.fraction(8, 3),
            x.fraction(0, -1), x.fraction(0, 6), x.fraction(Integer.MIN_VALUE, 0), x.fraction(Integer.MAX_VALUE, 0));
        x.steps(1);
        due("used", x.fraction(1, 4), 1);
        due("a shy one at an odd step", x.fraction(2, 5), 0);
        x.drop(1);
        due("place of one left out", x.fraction(1, 3), NONE);
        due("one left out", x.fraction(1, 5), 0);
        due("one left out was used", x.fraction(1, 4), 1);
        FractionRun e = laid("f1,2,5;f1,3,0;s12;");
        e.steps(1);
        dueEach("while ended", 0, e.fraction(0, 5), e.fraction(1, 5));
        e.multiply(0, 1);
        dueEach("no more ended", 1, e.fraction(0, 5), e.fraction(1, 5));
        FractionRun full = laid("f512,1,0;f1,2,0;s1;");
        full.steps(50);
        full.steps(50);
        due("ahead of the top", full.fraction(0, 5), 1);
        full.steps(11);
        due("999 is the most", full.number(0), 999);
        due("none goes above it", full.fraction(0, 5), 0);
        due("the other one does not", full.fraction(1, 5), 1);
    }

    private static void number() {
        dueNumber("all primes", laid("f1,1,0;s858;"), 1, 1, 0, 0, 1, 1);
        dueNumber("all primes", laid("f1,1,0;s980;"), 2, 0, 1, 2);
        FractionRun x = new FractionRun();
        dueEach("number", BAD, x.number(-1), x.number(6), x.number(Integer.MAX_VALUE), x.number(Integer.MIN_VALUE));
    }

    private static void steps() {
        FractionRun x = new FractionRun();
        dueEach("steps", BAD, x.steps(0), x.steps(51), x.steps(-1), x.steps(Integer.MIN_VALUE));
        due("steps", x.steps(50), 26);
        due("steps at rest", x.steps(1), NO);
        due("wrong steps at rest", x.steps(0), BAD);
        FractionRun y = laid("f1,1,0;");
        for (int i = 0; i < 19; i++) {
            due("steps", y.steps(50), 50);
        }
        due("steps", y.steps(48), 48);
        due("the last step", y.steps(50), 1);
        due("no more steps", y.steps(1), NO);
        due("there were", y.count(2), 999);
        due("it does not rest", y.count(4), 0);
        due("what comes does not end", y.used(200), 0);
        due("what comes does not end", y.rests(), NONE);
    }

    private static void kindsOfFractions() {
        FractionRun once = laid("f5,2,1;f3,2,0;s8;");
        due("steps", once.steps(50), 3);
        dueNumber("once", once, 0, 2, 1);
        FractionRun shy = laid("f5,2,2;f3,2,0;s16;");
        due("steps", shy.steps(50), 4);
        dueNumber("shy", shy, 0, 2, 2);
        FractionRun alone = laid("f5,2,2;s16;");
        due("a shy one alone", alone.steps(50), 1);
        due("it rests at an odd step", alone.count(4), 1);
        FractionRun eager = laid("f5,2,3;s32;");
        due("steps", eager.steps(1), 1);
        dueNumber("eager", eager, 3, 0, 2);
        due("steps", eager.steps(50), 2);
        dueNumber("eager", eager, 0, 0, 5);
        FractionRun last = laid("f5,2,4;f7,2,4;f3,2,0;f11,2,1;s8;");
        due("last", last.used(1), 2);
        last.drop(2);
        last.steps(50);
        dueNumber("last", last, 0, 0, 2, 0, 1);
        FractionRun end = laid("f3,2,5;f5,3,0;s4;");
        due("end", end.steps(50), 1);
        dueNumber("end", end, 1, 1);
        FractionRun top = laid("f512,1,3;f3,1,1;");
        due("steps", top.steps(50), 50);
        dueNumber("eager ones to the top", top, 900);
        due("steps", top.steps(50), 7);
        dueNumber("eager ones to the top", top, 999, 1);
        due("five times twice, once by once", top.fraction(1, 4), 1);
    }

    private static void ended() {
        FractionRun x = laid("f3,2,5;f5,2,0;s64;");
        due("steps", x.steps(9), 1);
        due("ended", x.count(9), 1);
        due("rests", x.count(4), 1);
        due("rests", x.rests(), 0);
        due("used", x.used(1), NONE);
        due("move", x.move(1, 0), 1);
        due("no more ended", x.count(9), 0);
        due("undo", x.undo(), 1);
        due("ended again", x.count(9), 1);
        due("drop", x.drop(1), 1);
        due("no more ended", x.count(9), 0);
        due("steps", x.steps(9), 1);
        due("ended", x.count(9), 1);
        due("a deed that can't be", x.multiply(5, -1), NO);
        due("still ended", x.count(9), 1);
        due("multiply", x.multiply(0, -1), 3);
        due("no more ended", x.count(9), 0);
    }

    private static void multiply() {
        FractionRun x = laid("f1,2,0;s1;");
        dueEach("multiply", BAD, x.multiply(6, 1), x.multiply(-1, 1), x.multiply(0, 0), x.multiply(0, 10),
            x.multiply(0, -10), x.multiply(0, Integer.MIN_VALUE), x.multiply(0, Integer.MAX_VALUE));
        dueEach("multiply", NO, x.multiply(0, -1), x.multiply(5, -9));
        for (int i = 1; i <= 111; i++) {
            due("multiply", x.multiply(3, 9), 9 * i);
        }
        due("multiply", x.multiply(3, 1), NO);
        due("multiply", x.multiply(3, -1), 998);
        due("multiply", x.multiply(3, 2), NO);
        due("multiply", x.multiply(3, 1), 999);
        due("the step's number stays", x.count(2), 0);
        due("count", x.count(3), 999);
    }

    private static void move() {
        FractionRun x = laid(ones(5, "00000"));
        due("move", x.move(1, 3), 1);
        dueRow("move", x, 0, 2, 3, 1, 4);
        due("move", x.move(4, 0), 4);
        dueRow("move", x, 4, 0, 2, 3, 1);
        due("move", x.move(4, 4), 0);
        dueRow("move", x, 0, 2, 3, 1, 4);
        due("used", x.used(1), 0);
        due("move there", x.move(3, 2), NO);
        dueEach("move", BAD, x.move(0, 5), x.move(0, -1), x.move(5, 0), x.move(-1, 0), x.move(8, 0),
            x.move(0, Integer.MAX_VALUE), x.move(Integer.MIN_VALUE, 0));
        x.drop(2);
        due("move one left out", x.move(2, 0), NO);
        due("move one left out, to a wrong place", x.move(2, 4), BAD);
        due("move to a place that is no more", x.move(0, 4), BAD);
        due("how many can be undone", x.count(5), 4);
    }

    private static void drop() {
        FractionRun x = laid(ones(4, "0000"));
        dueEach("drop", BAD, x.drop(4), x.drop(-1), x.drop(8), x.drop(Integer.MIN_VALUE));
        due("drop", x.drop(1), 3);
        dueRow("drop", x, 0, 2, 3);
        due("drop again", x.drop(1), NO);
        due("drop", x.drop(0), 2);
        due("drop", x.drop(3), 1);
        due("drop the only one", x.drop(2), NO);
        due("told", x.count(0), 4);
        due("undo", x.undo(), 2);
        dueRow("undo", x, 2, 3);
    }

    private static void undo() {
        FractionRun x = laid("f3,2,1;f5,2,0;f7,3,5;s64;");
        due("steps", x.steps(8), 7);
        due("ended", x.count(9), 1);
        due("multiply", x.multiply(1, 2), 2);
        due("undo", x.undo(), 1);
        due("ended", x.count(9), 1);
        dueNumber("undo", x, 0, 0, 5, 1);
        due("undo", x.undo(), 0);
        dueNumber("undo", x, 6);
        due("undo", x.count(2), 0);
        due("undo", x.fraction(0, 4), 0);
        due("undo", x.undo(), NO);
        for (int i = 0; i < 11; i++) {
            x.multiply(2, 1);
        }
        due("eight", x.count(5), 8);
        for (int left = 7; left >= 0; left--) {
            due("undo", x.undo(), left);
        }
        due("undo", x.undo(), NO);
        due("three stay", x.number(2), 3);
        x.multiply(2, 1);
        x.steps(1);
        due("undo", x.undo(), 1);
        due("undo", x.undo(), 0);
        due("three stay", x.number(2), 3);
        FractionRun y = laid("f3,2,0;s4;");
        y.see(1, 0);
        y.keep();
        y.steps(1);
        due("undo", y.undo(), 0);
        due("kept stays", y.count(6), 1);
        due("seen stays", y.count(7), 1);
    }

    private static void power() {
        FractionRun x = new FractionRun();
        dueEach("power", BAD, x.power(6, 0), x.power(-1, 0), x.power(0, -1), x.power(0, 201),
            x.power(Integer.MAX_VALUE, 1), x.power(0, Integer.MIN_VALUE));
        due("now", x.power(0, 0), 3);
        due("behind a step", x.power(0, 1), 2);
        due("behind a step", x.power(4, 1), 1);
        due("at rest", x.power(2, 26), 6);
        due("ahead of rest", x.power(1, 25), 1);
        due("behind rest", x.power(1, 27), 0);
        due("nothing was done", x.count(2), 0);
        FractionRun y = laid("f2,1,3;");
        due("power", y.power(0, 200), 400);
        FractionRun z = laid("f512,1,0;");
        due("power", z.power(0, 200), 999);
    }

    private static void used() {
        FractionRun x = new FractionRun();
        dueEach("used", BAD, x.used(0), x.used(201), x.used(-1), x.used(Integer.MAX_VALUE));
        int[] want = {4, 0, 1, 0, 1, 2, 3, 3};
        for (int n = 1; n <= want.length; n++) {
            due("used(" + n + ")", x.used(n), want[n - 1]);
        }
        due("the last one", x.used(26), 5);
        due("at rest", x.used(27), NONE);
        due("used", laid("f2,1,0;").used(200), 0);
    }

    private static void rests() {
        due("rests", laid("f1,2,0;").rests(), 0);
        due("rests", laid("f1,2,0;s512;").rests(), 9);
        FractionRun x = laid("f1,2,0;s512;");
        for (int i = 0; i < 21; i++) {
            x.multiply(0, 9);
        }
        due("rests behind 198", x.rests(), 198);
        x.multiply(0, 2);
        due("rests behind 200", x.rests(), 200);
        x.multiply(0, 1);
        due("does not rest by 200", x.rests(), NONE);
    }

    private static void round() {
        FractionRun x = laid("f1,1,0;");
        // It was not used at first, and the next step must be even both times, or odd.
        due("round", x.round(0), 1);
        due("round", x.round(1), 2);
        x.steps(1);
        due("round", x.round(0), 0);
        due("round", x.round(1), 2);
        FractionRun far = laid("f1,2,0;f5,3,0;f3,5,0;s3;");
        for (int i = 0; i < 21; i++) {
            far.multiply(0, 9);
        }
        // 189 halves; behind two steps more all three were used.
        due("round", far.round(0), 191);
        due("round", far.round(1), 2);
        far.multiply(0, 7);
        due("round from 198 to 200", far.round(0), 198);
        due("round from 198 to 200", far.round(1), 2);
        far.multiply(0, 1);
        due("round from 199 to 201", far.round(1), NONE);
        // 66 twos become threes in two steps each, and twos again in one.
        FractionRun whole = laid("f21,10,0;f5,7,0;f11,5,0;f2,3,0;f5,11,0;s40;");
        for (int i = 0; i < 7; i++) {
            whole.multiply(0, 9);
        }
        due("not by 200, for not all were used", whole.round(0), NONE);
        for (int i = 0; i < 4; i++) {
            whole.steps(50);
        }
        due("round from 0 to 200", whole.round(0), 0);
        due("round from 0 to 200", whole.round(1), 200);
        due("round behind 199", far.round(0), NONE);
        dueEach("round", BAD, x.round(-1), x.round(2), x.round(Integer.MIN_VALUE));
        FractionRun rest = new FractionRun();
        dueEach("round at rest", NONE, rest.round(0), rest.round(1));
        dueEach("round at rest", BAD, rest.round(-1), rest.round(2));
        dueEach("ever more", NONE, laid("f2,1,0;").round(0), laid("f2,1,0;").round(1));
    }

    private static void greatest() {
        FractionRun x = new FractionRun();
        dueEach("greatest", BAD, x.greatest(-1), x.greatest(6), x.greatest(Integer.MAX_VALUE));
        int[] want = {3, 2, 6, 2, 1, 1};
        for (int prime = 0; prime < 6; prime++) {
            due("greatest(" + prime + ")", x.greatest(prime), want[prime]);
        }
        due("greatest", laid("f2,1,0;").greatest(0), 200);
        due("greatest", laid("f1,2,0;s512;").greatest(0), 9);
    }

    private static void often() {
        FractionRun x = new FractionRun();
        dueEach("often", BAD, x.often(-1), x.often(6), x.often(8), x.often(Integer.MIN_VALUE));
        int[] want = {6, 6, 3, 6, 3, 2};
        for (int f = 0; f < 6; f++) {
            due("often(" + f + ")", x.often(f), want[f]);
        }
        due("eager ones", laid("f2,1,3;").often(0), 400);
        due("an eager one, five times", laid("f1,2,3;s32;").often(0), 5);
        x.drop(4);
        due("left out", x.often(4), 0);
    }

    private static void needed() {
        due("none of them", laid("f1,3,0;f1,5,0;s4;").needed(), 0);
        due("the only one", laid("f1,2,0;s4;").needed(), 1);
        due("the only one that can't be used", laid("f1,3,0;s4;").needed(), 0);
        due("either will do", laid("f1,2,0;f1,4,0;s16;").needed(), 0);
        due("only one will do", laid("f1,2,0;f1,4,0;s8;").needed(), 1);
        due("no rest", laid("f2,1,0;f1,2,0;").needed(), NONE);
        FractionRun x = laid("f5,2,5;f3,2,0;s8;");
        // The end stops it at 2, 2, 5; without it the other one goes on; without that one the end still stops it.
        due("the end", x.needed(), 1);
        x.steps(1);
        due("ended", x.count(9), 1);
        // Ended it rests as it is, and each one left out takes that from it.
        due("the end was", x.needed(), 3);
    }

    private static void order() {
        FractionRun x = laid("f3,2,0;f1,3,0;f5,4,0;s16;");
        // 16 goes to 25 by the last one twice; by 3 by 2 first it takes longer.
        due("soonest", x.order(-1), 2);
        due("first", x.order(0), 1);
        due("second", x.order(1), 2);
        due("third", x.order(2), 0);
        dueEach("not so many", NONE, x.order(3), x.order(7));
        dueEach("order", BAD, x.order(-2), x.order(8), x.order(Integer.MAX_VALUE), x.order(Integer.MIN_VALUE));
        dueEach("none rests", NONE, laid("f2,1,0;").order(-1), laid("f2,1,0;").order(0));
        FractionRun six = new FractionRun();
        dueEach("six", NONE, six.order(-1), six.order(0), six.order(6));
        dueEach("six", BAD, six.order(-2), six.order(8));
        six.drop(3);
        due("five", six.order(-1) >= 0 ? 1 : 0, 1);
        FractionRun alike = laid("f1,2,0;f1,2,0;s4;");
        alike.move(1, 0);
        due("the first of several", alike.order(0), 0);
        due("the first of several", alike.order(1), 1);
        FractionRun e = laid("f3,2,5;f5,2,0;s8;");
        e.steps(1);
        due("not ended ahead of it", e.order(-1), 1);
        due("not ended ahead of it", e.order(0), 0);
    }

    private static void map() {
        FractionRun x = laid("f3,2,0;f5,3,1;s7;");
        dueEach("map", BAD, x.map(-1, 0), x.map(41, 0), x.map(0, -1), x.map(0, 6), x.map(Integer.MAX_VALUE, 0),
            x.map(0, Integer.MIN_VALUE));
        due("map", x.map(0, 3), 0);
        due("map", x.map(40, 1), 39);
        due("map", x.map(40, 2), 1);
        x.multiply(0, 3);
        x.steps(50);
        due("none used yet", x.fraction(1, 4), 1);
        due("none used yet", x.map(4, 2), 1);
        x.drop(1);
        due("the row as it is", x.map(4, 2), 0);
        due("map", laid("f2,1,0;").map(3, 0), NONE);
        FractionRun shy = laid("f3,2,2;f5,2,5;s64;");
        shy.steps(1);
        due("step 0 is next", shy.map(1, 1), 1);
        shy.steps(1);
        due("ended", shy.count(9), 1);
        due("not ended", shy.map(1, 1), 1);
        due("two steps", shy.map(9, 0), 7);
    }

    private static void sources() {
        FractionRun x = laid("f3,4,0;");
        dueEach("sources", BAD, x.sources(-1, 0, 0), x.sources(6, 0, 0), x.sources(0, -1, 0), x.sources(0, 1000, 0),
            x.sources(0, 0, -1), x.sources(0, 0, 2), x.sources(Integer.MAX_VALUE, 0, 0),
            x.sources(0, Integer.MIN_VALUE, 0), x.sources(0, 0, Integer.MAX_VALUE));
        due("sources", x.sources(1, 0, 0), 2);
        due("sources", x.sources(1, 20, 0), 1);
        due("sources", x.sources(1, 20, 1), 40);
        due("sources", x.sources(0, 0, 0), 21);
        due("sources", x.sources(0, 1, 0), 20);
        due("sources", x.sources(0, 1, 1), 1);
        due("sources", x.sources(0, 2, 0), 0);
        due("sources", x.sources(0, 2, 1), NONE);
        due("sources", x.sources(0, 999, 1), NONE);
        due("none rests", laid("f2,1,0;").sources(0, 3, 0), 0);
    }

    private static void whence() {
        FractionRun x = laid("f3,2,0;f5,2,0;f1,7,0;s56;");
        due("at step 0", x.whence(), 0);
        x.steps(1);
        due("by the first one", x.whence(), 1);
        x.steps(2);
        due("by the first one", x.whence(), 1);
        x.steps(1);
        // By 3 by 2 it would still have a 2 ahead of it, and the first one would have been used: both may be.
        due("by the third one, or the first", x.whence(), 5);
        x.multiply(0, 1);
        due("with a 2 the third one was not used", x.whence(), 1);
        x.multiply(1, -3);
        due("not without a 3", x.whence(), 0);
        FractionRun eager = laid("f3,2,3;s16;");
        eager.steps(1);
        due("an eager one", eager.whence(), 1);
        eager.multiply(1, -1);
        due("an eager one is not used once if it can be twice", eager.whence(), 0);
        eager.multiply(0, -2);
        due("it is used once if it can't be twice", eager.whence(), 1);
        FractionRun once = laid("f3,2,1;s2;");
        once.steps(1);
        due("a once one, not used ahead", once.whence(), 1);
        FractionRun shy = laid("f3,2,2;f5,2,0;s8;");
        shy.steps(1);
        due("a shy one", shy.whence(), 1);
        shy.steps(1);
        due("not in step 1", shy.whence(), 2);
        FractionRun end = laid("f3,2,5;f5,2,0;s4;");
        end.steps(1);
        due("ended", end.whence(), 1);
        end.multiply(0, 1);
        due("not ended", end.whence(), 0);
        FractionRun top = laid("f1,2,0;");
        for (int i = 0; i < 111; i++) {
            top.multiply(0, 9);
        }
        top.steps(1);
        due("from 999", top.whence(), 1);
        top.multiply(0, 1);
        due("not from 1000", top.whence(), 0);
    }

    private static void see() {
        FractionRun x = laid(ones(2, "00"));
        dueEach("see", BAD, x.see(0, 0), x.see(61, 0), x.see(1, 2), x.see(1, -1), x.see(1, 7), x.see(1, 9),
            x.see(Integer.MIN_VALUE, 0), x.see(1, Integer.MAX_VALUE));
        due("see", x.see(1, 0), 1);
        due("see", x.see(60, 1), 2);
        due("see", x.see(60, 1), 3);
        due("see", x.see(1, 8), 4);
        due("see", x.see(1, 8), 5);
        due("see", x.see(1, 8), 6);
        due("see", x.see(1, 8), FULL);
        due("see", x.see(61, 8), BAD);
        due("seen", x.count(7), 6);
        FractionRun y = laid(ones(8, "00000000"));
        due("see", y.see(1, 7), 1);
        due("see", y.see(1, 8), 2);
        x.drop(1);
        x.forget();
        due("one left out", x.see(1, 1), 1);
    }

    private static void forget() {
        FractionRun x = laid("f2,1,0;");
        due("forget", x.forget(), 0);
        x.see(1, 8);
        x.see(1, 8);
        due("kinds", x.kinds(0), 0);
        due("forget", x.forget(), 2);
        due("forget", x.forget(), 0);
        due("kinds", x.kinds(0), 63);
        due("seen", x.count(7), 0);
    }

    private static void kinds() {
        FractionRun x = laid("f3,2,0;f5,2,0;s16;");
        dueEach("kinds", BAD, x.kinds(2), x.kinds(-1), x.kinds(8), x.kinds(Integer.MIN_VALUE));
        due("nothing seen", x.kinds(0), 63);
        x.see(1, 0);
        due("not last", x.kinds(0), 47);
        x.see(2, 1);
        due("once, shy", x.kinds(0), 6);
        x.see(3, 0);
        due("shy", x.kinds(0), 4);
        x.see(5, 8);
        due("shy", x.kinds(0), 4);
        due("of the other one none", x.kinds(1), 0);
        due("its own kind stays", x.fraction(0, 0), 0);
        x.steps(1);
        due("from now on", x.kinds(0), 0);
        FractionRun e = laid("f3,2,5;f5,2,0;s16;");
        e.steps(1);
        e.see(1, 8);
        due("ended is ended", e.kinds(0), 63);
        FractionRun eager = laid("f3,2,0;s8;");
        eager.see(3, 8);
        due("kinds by which it rests sooner", eager.kinds(0), 46);
        eager.see(2, 0);
        due("eager", eager.kinds(0), 8);
    }

    private static void look() {
        FractionRun x = laid("f3,2,0;f5,2,0;s16;");
        dueEach("look", BAD, x.look(2, 0), x.look(-1, 0), x.look(0, -1), x.look(0, 2), x.look(8, 0),
            x.look(0, Integer.MAX_VALUE));
        // plain 0 0 0 0, once 0 1 1 1, shy 0 1 0 1, eager 0 0 8 8, last 1 1 1 1, end 0 8 8 8
        due("look", x.look(0, 0), 3);
        due("the greatest part", x.look(0, 1), 2);
        x.see(1, 1);
        due("one is left", x.kinds(0), 16);
        dueEach("one is left", NONE, x.look(0, 0), x.look(0, 1));
        dueEach("one is left", BAD, x.look(0, 2), x.look(2, 0));
        x.see(1, 0);
        dueEach("none is left", NONE, x.look(0, 0), x.look(0, 1));
        FractionRun y = laid("f3,2,0;s4;");
        y.see(2, 8);
        // once, shy, eager and end are told apart by nothing
        due("the first of several", y.look(0, 0), 1);
        due("all alike", y.look(0, 1), 4);
        FractionRun far = laid("f1,3,0;f1,2,0;s9;");
        far.move(1, 0);
        far.multiply(0, 9);
        far.multiply(0, 9);
        // The 19th step uses it by all kinds; in the 20th it is used again as a plain one or a last one.
        due("the furthest step", far.look(0, 0), 20);
        due("the furthest step", far.look(0, 1), 4);
    }

    private static void duel() {
        FractionRun x = laid("f1,2,0;f1,9,0;s36;");
        dueEach("duel", BAD, x.duel(-1), x.duel(5), x.duel(Integer.MAX_VALUE), x.duel(Integer.MIN_VALUE));
        due("none", x.duel(0), 3);
        due("one makes it 4", x.duel(1), 4);
        due("the other one can do nothing", x.duel(2), 4);
        FractionRun y = laid("f1,6,0;f2,3,0;s6;");
        // 6 -> 1; 12 -> 2; 18 -> 3 -> 2, which is most.
        due("one turn", y.duel(1), 2);
        // Behind 18 the other one does nothing, or takes 36 -> 6 -> 1, but not 54 -> 9 -> 6 -> 1.
        due("two turns", y.duel(2), 2);
        FractionRun e = laid("f3,2,5;s8;");
        e.steps(1);
        due("ended", e.duel(0), 0);
        due("a deed ends that", e.duel(1), 1);
        FractionRun top = laid("f1,2,0;s1;");
        for (int i = 0; i < 22; i++) {
            top.multiply(0, 9);
        }
        due("198", top.duel(0), 198);
        due("199", top.duel(1), 199);
        top.multiply(0, 9);
        due("200", top.duel(0), 200);
        FractionRun most = laid("f1,6,0;");
        for (int i = 0; i < 111; i++) {
            most.multiply(0, 9);
        }
        due("2 is at 999", most.duel(1), 1);
        FractionRun threes = laid("f1,729,0;f1,81,0;");
        for (int i = 0; i < 111; i++) {
            threes.multiply(1, 9);
        }
        // 999 threes are 166 times 6 and 3, which is too few for the other one; 1000 would not be.
        due("3 is at 999", threes.duel(1), 166);
    }

    private static void odds() {
        FractionRun x = laid("f1,1,4;f1,2,0;f1,1,0;f1,1,0;s1;");
        dueEach("odds", BAD, x.odds(4, 1, 0), x.odds(-1, 1, 0), x.odds(9, 1, 0), x.odds(0, -1, 0), x.odds(0, 11, 0),
            x.odds(0, 1, 2), x.odds(0, 1, -1), x.odds(Integer.MIN_VALUE, 1, 0), x.odds(0, Integer.MAX_VALUE, 0));
        // In turn: 2, 3, then the last one, 0.
        int[][] want = {{12, 125}, {0, 1}, {3, 5}, {6, 25}};
        for (int f = 0; f < 4; f++) {
            due("above " + f, x.odds(f, 4, 0), want[f][0]);
            due("below " + f, x.odds(f, 4, 1), want[f][1]);
        }
        due("none above", x.odds(8, 4, 0), 8);
        due("none below", x.odds(8, 4, 1), 125);
        due("by 0", x.odds(2, 0, 0), 1);
        due("by 0", x.odds(2, 0, 1), 1);
        due("by 0", x.odds(3, 0, 0), 0);
        due("by 0", x.odds(3, 0, 1), 1);
        due("none by 0", x.odds(8, 0, 0), 0);
        due("none by 0", x.odds(8, 0, 1), 1);
        due("none by 10", x.odds(8, 10, 0), 1);
        due("none by 10", x.odds(8, 10, 1), 1);
        x.drop(2);
        due("left out", x.odds(2, 4, 0), 0);
        due("left out", x.odds(2, 4, 1), 1);
        due("the next one", x.odds(3, 4, 0), 3);
        FractionRun eight = laid(ones(8, "00000000"));
        due("the eighth", eight.odds(7, 9, 0), 4782969);
        due("the eighth", eight.odds(7, 9, 1), 100000000);
        due("none of eight", eight.odds(8, 9, 0), 43046721);
        due("none of eight", eight.odds(8, 9, 1), 100000000);
        FractionRun e = laid("f1,1,5;");
        e.steps(1);
        due("ended", e.odds(0, 5, 0), 0);
        due("ended", e.odds(8, 5, 0), 1);
        due("ended", e.odds(8, 5, 1), 1);
    }

    private static void day() {
        FractionRun x = laid("f3,2,0;f5,3,0;f2,5,0;");
        dueEach("day", BAD, x.day(-1, 1, 0), x.day(10000, 1, 0), x.day(0, 0, 0), x.day(0, 61, 0), x.day(0, 1, -1),
            x.day(0, 1, 3), x.day(Integer.MIN_VALUE, 1, 0), x.day(0, Integer.MAX_VALUE, 0));
        // z = 0: x is 1, 6152, 12303, 18454: draws 1, 41487, 9299, 48753 (modulo 4: 1, 3, 3, 1)
        due("a step at rest", x.day(0, 1, 0), 0);
        due("the first", x.day(0, 1, 2), 0);
        due("moved", x.day(0, 2, 2), 1);
        due("moved twice", x.day(0, 3, 2), 2);
        due("no number", x.day(0, 4, 1), 0);
        for (int z = 0; z <= 9999; z += 101) {
            for (int n = 1; n <= 60; n += 7) {
                dueDay(x, z, n);
            }
        }
        dueDay(x, 9999, 60);
        due("nothing was done", x.count(2) + x.count(3) + x.count(5) + x.fraction(0, 3), 0);
    }

    /** The same day by deeds, which are taken back by laying the text again. */
    private static void dueDay(FractionRun x, int z, int n) {
        int steps = x.day(z, n, 0);
        int powers = x.day(z, n, 1);
        int first = x.day(z, n, 2);
        int made = 0;
        for (int k = 0; k < n; k++) {
            long sum = 7919L * z + 6151L * k + 1;
            int draw = (int) (sum * sum % 65521);
            if (draw % 4 < 2) {
                made += Math.max(0, x.steps(1));
            } else if (draw % 4 == 2) {
                x.multiply(draw / 8 % 6, 1);
            } else {
                int f = 0;
                while (x.fraction(f, 3) != 0) {
                    f++;
                }
                x.move(f, 2);
            }
        }
        due("steps of day " + z + ", " + n, steps, made);
        due("powers of day " + z + ", " + n, powers, x.count(3));
        due("first of day " + z + ", " + n, x.fraction(Math.max(0, Math.min(2, first)), 3), 0);
        x.lay();
    }

    private static void keep() {
        FractionRun x = laid("f3,2,0;s8;");
        due("keep", x.keep(), 1);
        due("keep", x.keep(), 2);
        due("keep", x.keep(), FULL);
        due("kept", x.count(6), 2);
        x.lay();
        due("kept", x.count(6), 0);
        due("keep", x.keep(), 1);
    }

    private static void back() {
        FractionRun x = laid("f3,2,0;f5,3,1;f7,2,5;s8;");
        due("back", x.back(), NO);
        x.steps(1);
        x.move(2, 0);
        x.keep();
        x.steps(1);
        due("ended", x.count(9), 1);
        x.keep();
        x.drop(0);
        x.multiply(4, 4);
        x.see(3, 2);
        due("how many can be undone", x.count(5), 5);
        due("back", x.back(), 1);
        due("ended again", x.count(9), 1);
        dueRow("back", x, 2, 0, 1);
        dueNumber("back", x, 1, 1, 0, 1);
        due("seen stays", x.count(7), 1);
        due("nothing is undone then", x.undo(), NO);
        due("steps", x.count(2), 2);
        due("used", x.fraction(2, 4), 1);
        x.wipe();
        due("back", x.back(), 0);
        dueRow("back", x, 2, 0, 1);
        dueNumber("back", x, 2, 1);
        due("steps", x.count(2), 1);
        due("used", x.fraction(2, 4), 0);
        due("not ended", x.count(9), 0);
        due("the text is kept too", x.count(8), 24);
        due("back", x.back(), NO);
    }

    private static void count() {
        FractionRun x = laid("f3,2,0;f5,3,5;s8;");
        dueEach("count", BAD, x.count(-1), x.count(10), x.count(Integer.MAX_VALUE), x.count(Integer.MIN_VALUE));
        x.multiply(4, 3);
        x.steps(3);
        x.drop(0);
        x.steps(1);
        x.keep();
        x.see(1, 8);
        x.see(1, 8);
        x.write('x');
        int[] want = {2, 1, 4, 6, 1, 4, 1, 2, 18, 1};
        for (int what = 0; what < want.length; what++) {
            due("count(" + what + ")", x.count(what), want[what]);
        }
    }
}
