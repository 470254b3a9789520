import java.io.IOException;
import java.lang.management.ManagementFactory;
import java.lang.reflect.Constructor;
import java.lang.reflect.Field;
import java.lang.reflect.Method;
import java.lang.reflect.Modifier;
import java.nio.file.Files;
import java.nio.file.Path;
import java.util.Set;
import java.util.TreeSet;
import java.util.regex.Matcher;
import java.util.regex.Pattern;

// The document's face and those rules of LANGUAGE.md that a program can look at.
// It is run in the project's folder, as .ci/run does.
public final class RuleTests {
    private static final Path SOURCE = Path.of("src/main/java/NineHands.java");
    private static final Set<String> FACE = Set.of(
        "int type(long, int)", "int clear()", "int chancery()", "int clerk(int, int)", "int line(int, int)",
        "int makes(int, int, int)", "int write(int)", "int forge(int, int)", "int undo()", "int lot(int)",
        "int turned()", "int who(int, int)", "int rows()", "int odds(int, int, int)", "int order(int, int, int)",
        "int drift(int, int)", "int sign(int, int, int, int)", "int learnt(int)", "int forget()", "int copy(int)",
        "int came(int, int)", "int firsts()", "int burn()", "int rate(int, int)", "int keep(int)", "int back(int)",
        "int count(int)", "long trace()");
    private static final Check check = new Check("RuleTests");

    public static void main(String[] args) throws IOException, IllegalAccessException {
        constants();
        members();
        insideClasses();
        words(withoutTexts(Files.readString(SOURCE)));
        anyArguments();
        roomOfCalls();
        check.finish();
    }

    private static void constants() throws IllegalAccessException {
        check.part("constants");
        check.due("BAD", NineHands.BAD, -1);
        check.due("STATE", NineHands.STATE, -2);
        check.due("FULL", NineHands.FULL, -3);
        check.due("NONE", NineHands.NONE, -9);
        check.due("NO", NineHands.NO, -1000000);
        Set<String> open = new TreeSet<>();
        for (Field field : NineHands.class.getDeclaredFields()) {
            if (!Modifier.isPrivate(field.getModifiers())) {
                open.add(Modifier.toString(field.getModifiers()) + " " + field.getType() + " " + field.getName());
            }
        }
        Set<String> want = new TreeSet<>();
        for (String name : new String[] {"BAD", "STATE", "FULL", "NONE", "NO"}) {
            want.add("public static final int " + name);
        }
        check.holds("the constants are the document's: " + open, open.equals(want));
    }

    private static String signature(Method method) {
        StringBuilder text = new StringBuilder(method.getReturnType() + " " + method.getName() + "(");
        for (Class<?> type : method.getParameterTypes()) {
            text.append(text.toString().endsWith("(") ? "" : ", ").append(type);
        }
        return text.append(")").toString();
    }

    private static void members() {
        check.part("members");
        check.holds("the class is public and final", NineHands.class.getModifiers() == (Modifier.PUBLIC | Modifier.FINAL));
        check.holds("it has no package", NineHands.class.getPackageName().isEmpty());
        Constructor<?>[] constructors = NineHands.class.getDeclaredConstructors();
        check.due("constructors", constructors.length, 1);
        check.holds("it is the document's", constructors[0].getParameterCount() == 0
            && constructors[0].getModifiers() == Modifier.PUBLIC);
        Set<String> open = new TreeSet<>();
        for (Method method : NineHands.class.getDeclaredMethods()) {
            if (!Modifier.isPrivate(method.getModifiers())) {
                check.holds(method + " is of an object", method.getModifiers() == Modifier.PUBLIC);
                open.add(signature(method));
            }
        }
        check.holds("the methods are the document's: " + open, open.equals(new TreeSet<>(FACE)));
    }

    private static void insideClasses() {
        check.part("classes inside");
        Set<String> names = new TreeSet<>();
        for (String one : FACE) {
            names.add(one.substring(one.indexOf(' ') + 1, one.indexOf('(')));
        }
        check.holds("there are twelve classes at most", NineHands.class.getDeclaredClasses().length < 12);
        for (Method method : NineHands.class.getDeclaredMethods()) {
            boolean hidden = Modifier.isPrivate(method.getModifiers());
            check.holds(method + " bears no public name", !hidden || !names.contains(method.getName()));
            check.holds(method + " takes seven at most", method.getParameterCount() <= 7);
        }
        for (Class<?> inside : NineHands.class.getDeclaredClasses()) {
            check.holds(inside + " is static", Modifier.isStatic(inside.getModifiers()));
            check.holds(inside + " is not open", !Modifier.isPublic(inside.getModifiers()));
            for (Method method : inside.getDeclaredMethods()) {
                check.holds(method + " bears no public name", !names.contains(method.getName()));
                check.holds(method + " takes seven at most", method.getParameterCount() <= 7);
            }
            for (Field field : inside.getDeclaredFields()) {
                boolean settled = !Modifier.isStatic(field.getModifiers()) || Modifier.isFinal(field.getModifiers());
                check.holds(field + " is no static state", settled);
            }
        }
    }

    private static String withoutTexts(String source) {
        return source.replaceAll("//[^\n]*", "").replaceAll("\"[^\"\n]*\"", "\"\"");
    }

    private static void words(String source) {
        check.part("words");
        String[] never = {
            "throw", "throws", "try", "catch", "finally", "synchronized", "assert", "import", "package", "float",
            "double", "native", "volatile", "transient", "yield", "var"
        };
        for (String word : never) {
            check.holds("no " + word, !Pattern.compile("\\b" + word + "\\b").matcher(source).find());
        }
        check.holds("no arrow", !source.contains("->"));
        check.holds("no method reference", !source.contains("::"));
        check.holds("no static block", !Pattern.compile("\\bstatic\\s*\\{").matcher(source).find());
        Matcher library = Pattern.compile("\\b(Math|Integer|Long|System|Arrays)\\.(\\w+)").matcher(source);
        Set<String> may = Set.of("Math.max", "Math.min", "Math.abs", "Integer.bitCount", "System.arraycopy");
        while (library.find()) {
            check.holds(library.group() + " may be used", may.contains(library.group()));
        }
        for (int k = 0; k < source.length(); k++) {
            check.holds("sign " + k + " is plain", source.charAt(k) < 128);
        }
    }

    // No call may ever throw, whatever it is given, in an empty, a full and a fresh object.
    private static void anyArguments() {
        check.part("any arguments");
        int[] odd = {Integer.MIN_VALUE, -1000000, -10, -9, -2, -1, 0, 1, 2, 5, 6, 7, 8, 9, 10, 63, 64, 200, 255, 256,
            Integer.MAX_VALUE - 1, Integer.MAX_VALUE};
        for (int state = 0; state < 3; state++) {
            for (int a : odd) {
                for (int b : odd) {
                    for (int c : odd) {
                        callAll(inState(state), a, b, c);
                    }
                }
            }
        }
        check.holds("no call threw", true);
    }

    private static NineHands inState(int state) {
        NineHands x = Check.told(state == 0 ? "" : "clerk 5 3 4 5;clerk 8 0 7 10;clerk0 7 0 0;".repeat(2));
        for (int k = 0; k < 9 && state == 2; k++) {
            x.forge(k, k % 8);
            x.sign(9, 7, 9, 7);
            x.copy(k * 31);
            x.keep(k % 2);
        }
        return x;
    }

    private static void callAll(NineHands x, int a, int b, int c) {
        x.clerk(a, b);
        x.line(a, b);
        x.makes(a, b, c);
        x.turned();
        x.who(a, b);
        x.rows();
        x.odds(a, b, c);
        x.order(a, b, c);
        x.drift(a, b);
        x.sign(a, b, c, a);
        x.sign(a, b, b, c);
        x.learnt(a);
        x.copy(a);
        x.came(a, b);
        x.firsts();
        x.rate(a, b);
        x.write(a);
        x.forge(a, b);
        x.keep(a);
        x.undo();
        x.back(b);
        x.lot(a);
        x.count(a);
        x.type((long) a << 32 | b, c);
        x.chancery();
        x.clear();
        x.forget();
        x.burn();
        x.undo();
        x.trace();
    }

    // A call that made even one small object each time would stand far above what the measuring itself makes.
    private static void roomOfCalls() {
        check.part("room");
        NineHands x = inState(2);
        java.lang.management.ThreadMXBean bean = ManagementFactory.getThreadMXBean();
        if (!(bean instanceof com.sun.management.ThreadMXBean threads) || !threads.isThreadAllocatedMemorySupported()) {
            return;
        }
        long self = Thread.currentThread().getId();
        long start = Check.packed("clerk4 0", 0, 8);
        long end = Check.packed(" 7 10;", 0, 6);
        for (int k = 0; k < 100; k++) {
            callAll(x, k % 6, k % 10, k % 8);
        }
        long before = threads.getThreadAllocatedBytes(self);
        for (int k = 0; k < 20000; k++) {
            callAll(x, k % 6, k % 10, k % 8);
            x.type(start, 8);
            x.type(end, 6);
            x.chancery();
        }
        long made = threads.getThreadAllocatedBytes(self) - before;
        check.holds("20000 rounds make no objects, but " + made + " bytes were made", made < 20000);
    }
}
