import java.lang.management.ManagementFactory;
import java.lang.reflect.Constructor;
import java.lang.reflect.Field;
import java.lang.reflect.Method;
import java.lang.reflect.Modifier;
import java.nio.file.Files;
import java.nio.file.Path;
import java.util.Set;
import java.util.TreeSet;
import java.util.regex.Matcher;
import java.util.regex.Pattern;

/** The public face, rules of LANGUAGE.md that can be told from outside, and that no call makes objects. */
public final class FaceTest {
    private static final Path SOURCE = Path.of("src/main/java/FractionRun.java");
    private static final Set<String> FACE = Set.of("write(int)", "wipe()", "fault()", "lay()", "fraction(int,int)",
        "number(int)", "steps(int)", "multiply(int,int)", "move(int,int)", "drop(int)", "undo()", "power(int,int)",
        "used(int)", "rests()", "round(int)", "greatest(int)", "often(int)", "needed()", "order(int)", "map(int,int)",
        "sources(int,int,int)", "whence()", "see(int,int)", "forget()", "kinds(int)", "look(int,int)", "duel(int)",
        "odds(int,int,int)", "day(int,int,int)", "keep()", "back()", "count(int)");
    private static int wrong = 0;

    public static void main(String[] args) throws Exception {
        face();
        classesInside();
        words();
        callsMakeNothing();
        System.out.println(wrong == 0 ? "the face is as told" : wrong + " faults");
        if (wrong != 0) {
            System.exit(1);
        }
    }

    private static void check(boolean holds, String what) {
        if (!holds) {
            wrong++;
            System.out.println("not so: " + what);
        }
    }

    private static String signature(Method method) {
        StringBuilder text = new StringBuilder(method.getName()).append('(');
        for (Class<?> type : method.getParameterTypes()) {
            text.append(text.charAt(text.length() - 1) == '(' ? "" : ",").append(type.getName());
        }
        return text.append(')').toString();
    }

    private static void face() {
        Class<FractionRun> type = FractionRun.class;
        check(Modifier.isPublic(type.getModifiers()) && Modifier.isFinal(type.getModifiers()), "public and final");
        Set<String> found = new TreeSet<>();
        Set<String> names = new TreeSet<>();
        for (Method method : type.getDeclaredMethods()) {
            if (Modifier.isPublic(method.getModifiers())) {
                found.add(signature(method));
                names.add(method.getName());
                check(method.getReturnType() == int.class && !Modifier.isStatic(method.getModifiers()), method.getName());
            }
        }
        check(found.equals(new TreeSet<>(FACE)), "the methods are those of the document: " + found);
        for (Method method : type.getDeclaredMethods()) {
            check(Modifier.isPublic(method.getModifiers()) || Modifier.isPrivate(method.getModifiers()), method.getName());
            check(Modifier.isPublic(method.getModifiers()) || !names.contains(method.getName()), method.getName());
        }
        Set<String> constants = new TreeSet<>();
        for (Field field : type.getDeclaredFields()) {
            int how = field.getModifiers();
            check(Modifier.isPublic(how) || Modifier.isPrivate(how), field.getName());
            check(!Modifier.isStatic(how) || Modifier.isFinal(how), field.getName());
            if (Modifier.isPublic(how)) {
                check(Modifier.isStatic(how) && field.getType() == int.class, field.getName());
                constants.add(field.getName());
            }
        }
        check(constants.equals(new TreeSet<>(Set.of("BAD", "NO", "FULL", "NONE"))), "the constants: " + constants);
        Constructor<?>[] constructors = type.getDeclaredConstructors();
        check(constructors.length == 1 && Modifier.isPublic(constructors[0].getModifiers())
            && constructors[0].getParameterCount() == 0, "the constructor");
    }

    private static void classesInside() {
        Class<?>[] inside = FractionRun.class.getDeclaredClasses();
        check(inside.length <= 11, "at most some twelve classes");
        Set<String> names = new TreeSet<>();
        for (Method method : FractionRun.class.getMethods()) {
            names.add(method.getName());
        }
        for (Class<?> type : inside) {
            check(Modifier.isStatic(type.getModifiers()), type.getName() + " is static");
            for (Method method : type.getDeclaredMethods()) {
                check(!names.contains(method.getName()), type.getName() + "." + method.getName());
                check(method.getParameterCount() <= 7, type.getName() + "." + method.getName());
            }
        }
    }

    private static void words() throws Exception {
        String source = Files.readString(SOURCE);
        check(source.chars().allMatch(c -> c == '\n' || c >= 32 && c < 127), "plain ASCII");
        String code = source.replaceAll("(?s)/\\*.*?\\*/", "").replaceAll("//[^\n]*", "");
        for (String word : new String[] {"throw", "throws", "try", "catch", "synchronized", "assert", "package", "import",
            "Object", "float", "double", "native", "Thread", "protected", "instanceof", "var"}) {
            check(!Pattern.compile("\\b" + word + "\\b").matcher(code).find(), "the code has no " + word);
        }
        check(!code.contains("->") && !code.contains("::"), "the code has no lambda and no method reference");
        Matcher made = Pattern.compile("\\n {4,8}(public|private|static|void|int|long|boolean|char)[^;=\\n]*\\) \\{\\n"
            + "(?s)(.*?)\\n {4,8}\\}\\n").matcher(code);
        while (made.find()) {
            check(made.group(2).lines().count() <= 60, "short methods");
            check(!made.group(2).contains("new "), "no method makes objects: " + made.group().strip().lines().findFirst());
        }
    }

    /** The room of a run is small: all that a call needs is made with the object. */
    private static void callsMakeNothing() {
        com.sun.management.ThreadMXBean meter = (com.sun.management.ThreadMXBean) ManagementFactory.getThreadMXBean();
        FractionRun x = new FractionRun();
        useAll(x);
        long before = meter.getCurrentThreadAllocatedBytes();
        useAll(x);
        long made = meter.getCurrentThreadAllocatedBytes() - before;
        check(made < 2000, "calls make no objects, but " + made + " bytes were made");
    }

    private static void useAll(FractionRun x) {
        for (int i = 0; i < 30; i++) {
            x.wipe();
            x.write('s');
            x.fault();
            x.lay();
            x.fraction(0, 5);
            x.number(0);
            x.steps(1);
            x.multiply(0, 1);
            x.move(0, 1);
            x.drop(1);
            x.order(0);
            x.undo();
            x.power(0, 200);
            x.used(200);
            x.rests();
            x.round(0);
            x.greatest(0);
            x.often(0);
            x.needed();
            x.map(3, 0);
            x.sources(0, 1, 0);
            x.whence();
            x.see(1, 0);
            x.kinds(0);
            x.look(0, 0);
            x.forget();
            x.duel(4);
            x.odds(0, 5, 0);
            x.day(3, 60, 1);
            x.keep();
            x.back();
            x.count(3);
        }
    }
}
