import java.lang.management.ManagementFactory;
import java.lang.reflect.Array;
import java.lang.reflect.Constructor;
import java.lang.reflect.Field;
import java.lang.reflect.Method;
import java.lang.reflect.Modifier;
import java.nio.file.Files;
import java.nio.file.Path;
import java.util.Arrays;
import java.util.HashSet;
import java.util.IdentityHashMap;
import java.util.List;
import java.util.Map;
import java.util.Set;
import java.util.TreeSet;
import java.util.regex.Matcher;
import java.util.regex.Pattern;

/** The public face, the room that an object and its calls take, and what of LANGUAGE.md can be seen in the text. */
public final class FaceTest {
    private static final String[] FACE = {
        "int mouth(int,int,int)", "boolean air(int,int)", "int feed(int,int,int,int,int)", "int tongue(int)",
        "int sentence(int,int)", "int say(int,int)", "int heard(int)", "int hearing(int,int,int)", "int way(int,int)",
        "int meaning(int,int,int,int,int)", "long read(int,int,int)", "int missed(int,int,int,int)", "int soonest(int,int)",
        "int byRules(int,int,int)", "int table(int,int,int)", "int alike(int,int)", "boolean seed(int)", "int draw(int)",
        "int keep()", "boolean undo()", "int quiet()", "int said(int,int)", "int check(int,int)", "int count(int)"};
    private static final int MOST_ELEMENTS_NEW = 5000;
    private static final int MOST_ELEMENTS_USED = 60000;
    private static int wrong = 0;

    public static void main(String[] args) throws Exception {
        face();
        room();
        nothingIsMade();
        text(Files.readString(Path.of("src/main/java/OneWord.java")));
        System.out.println(wrong == 0 ? "the face and the text are as due" : wrong + " things are not as due");
        if (wrong != 0) System.exit(1);
    }

    private static void must(boolean holds, String what) {
        if (!holds) {
            wrong++;
            System.out.println(what);
        }
    }

    private static void face() {
        Class<?> c = OneWord.class;
        must(Modifier.isPublic(c.getModifiers()) && Modifier.isFinal(c.getModifiers()), "the class is public and final");
        Set<String> got = new TreeSet<>();
        Set<String> hidden = new HashSet<>();
        Set<String> open = new HashSet<>();
        for (Method m : c.getDeclaredMethods()) {
            if (Modifier.isPrivate(m.getModifiers())) {
                hidden.add(m.getName());
                continue;
            }
            must(Modifier.isPublic(m.getModifiers()) && !Modifier.isStatic(m.getModifiers()), m + " is no part of the face");
            open.add(m.getName());
            StringBuilder s = new StringBuilder(m.getReturnType() + " " + m.getName() + "(");
            for (Class<?> p : m.getParameterTypes()) s.append(s.charAt(s.length() - 1) == '(' ? "" : ",").append(p);
            got.add(s.append(')').toString());
        }
        must(got.equals(new TreeSet<>(Arrays.asList(FACE))), "the face: " + got);
        hidden.retainAll(open);
        must(hidden.isEmpty(), "private methods with public names: " + hidden);
        Constructor<?>[] makers = c.getDeclaredConstructors();
        must(makers.length == 1 && makers[0].getParameterCount() == 0 && Modifier.isPublic(makers[0].getModifiers()), "the constructor");
        for (Field f : c.getDeclaredFields()) {
            must(Modifier.isPrivate(f.getModifiers()) || f.getName().equals("NONE"), f + " is no part of the face");
        }
        must(c.getDeclaredClasses().length <= 11, "twelve classes at most");
        for (Class<?> inner : c.getDeclaredClasses()) {
            must(Modifier.isStatic(inner.getModifiers()) && !Modifier.isPublic(inner.getModifiers()), inner + " is static and not public");
            long fields = Arrays.stream(inner.getDeclaredFields()).filter(f -> !Modifier.isStatic(f.getModifiers())).count();
            must(fields <= 20, inner + " has " + fields + " fields");
            for (Method m : inner.getDeclaredMethods()) {
                must(!open.contains(m.getName()), inner + " has a method with a public one's name: " + m.getName());
                must(m.getParameterCount() <= 7, m + " has more than seven parameters");
            }
        }
        for (Class<?> each : c.getDeclaredClasses()) statics(each);
        statics(c);
    }

    private static void statics(Class<?> c) {
        for (Field f : c.getDeclaredFields()) {
            if (Modifier.isStatic(f.getModifiers())) must(Modifier.isFinal(f.getModifiers()), f + " is not final");
        }
    }

    private static long elements(Object o, Map<Object, Boolean> seen) throws IllegalAccessException {
        if (o == null || o instanceof String || seen.put(o, true) != null) return 0;
        Class<?> c = o.getClass();
        if (c.isArray()) return Array.getLength(o);
        long sum = 0;
        for (Field f : c.getDeclaredFields()) {
            if (Modifier.isStatic(f.getModifiers())) continue;
            f.setAccessible(true);
            sum += 1 + (f.getType().isPrimitive() ? 0 : elements(f.get(o), seen));
        }
        return sum;
    }

    private static void text(OneWord word, String text) {
        for (int from = 0; from < text.length(); from += 20) {
            int[] five = new int[5];
            for (int i = 0; i < 20; i++) {
                five[i / 4] |= (from + i < text.length() ? text.charAt(from + i) : ' ') << 24 - 8 * (i % 4);
            }
            word.feed(five[0], five[1], five[2], five[3], five[4]);
        }
    }

    private static OneWord busy() {
        OneWord word = new OneWord();
        for (int i = 0; i < 8; i++) {
            word.mouth(i, -i, 900);
            word.feed(0x01010102, 0, 0, 0, 0);
            word.sentence(i, 4);
        }
        return word;
    }

    private static void dearCalls(OneWord word) {
        String tongue = "m1+g%2(1=1);rf+1(g+w*l-p/3>0)";
        text(word, tongue);
        word.tongue(tongue.length());
        for (int bits = 1; bits < 256; bits = bits * 2 + 1) word.soonest(bits, -1);
        word.byRules(255, 400, 1);
        word.draw(200);
        word.keep();
        word.undo();
        for (int ear = 0; ear < 8; ear++) word.heard(ear);
        word.said(100, 2);
        word.feed(0x05200520, 0x05200520, 0x05200520, 0x05200520, 0x05200520);
        word.feed(0x05200520, 0x05200520, 0x05200520, 0x05200520, 0x05200520);
        word.read(0, 12, -1);
        word.feed(0x20202020, 0x20202020, 0x20202020, 0x20202020, 0x20202020);
        word.feed(0x20202020, 0x20202020, 0x20202020, 0x20202020, 0x20202020);
        word.missed(0, 0, 10, -1);
        word.feed(1, 2, 3, 4, 5);
        word.table(12, 5, -1);
        word.feed(0x01020304, 0x05060708, 0x090a0b0c, 4, 5);
        word.alike(12, 4);
        word.quiet();
    }

    private static void room() throws IllegalAccessException {
        OneWord word = busy();
        long before = elements(word, new IdentityHashMap<>());
        must(before <= MOST_ELEMENTS_NEW, "a new object has " + before + " fields and elements");
        dearCalls(word);
        long after = elements(word, new IdentityHashMap<>());
        must(after <= MOST_ELEMENTS_USED, "a used object has " + after + " fields and elements");
    }

    private static void nothingIsMade() {
        com.sun.management.ThreadMXBean threads = (com.sun.management.ThreadMXBean) ManagementFactory.getThreadMXBean();
        OneWord word = busy();
        dearCalls(word);
        long id = Thread.currentThread().getId();
        long before = threads.getThreadAllocatedBytes(id);
        for (int i = 0; i < 500; i++) {
            word.soonest(15, 100);
            word.byRules(255, 9, 1);
            word.say(0, 9);
            word.heard(1);
            word.said(0, 2);
            word.feed(i, i, i, i, i);
            word.tongue(20);
            word.feed(0x0102031f, i, i, i, i);
            word.sentence(i % 8, 4);
            word.soonest(i % 255 + 1, -1);
            word.feed(0x05200520, 0x05200520, 0x05200520, 0x05200520, 0x05200520);
            word.read(0, 10, i % 10);
            word.feed(0x20202020, 0x20202020, 0x20202020, 0x20202020, 0x20202020);
            word.missed(0, 0, 9, 0);
            word.feed(i, i, i, i, i);
            word.check(0, 5);
            word.draw(1);
            word.keep();
            word.undo();
            word.count(i);
        }
        long made = threads.getThreadAllocatedBytes(id) - before;
        must(made < 20000, "ten thousand calls made " + made + " bytes");
    }

    private static void text(String source) {
        String code = source.replaceAll("(?s)/\\*.*?\\*/", "").replaceAll("//[^\n]*", "")
            .replaceAll("'(\\\\.|[^'\\\\])'", "0").replaceAll("\"(\\\\.|[^\"\\\\])*\"", "TEXT");
        for (String bad : List.of("throw", "throws", "try", "catch", "synchronized", "assert", "import", "package", "native", "var",
            "volatile", "equals", "hashCode", "toString", "float", "double", "instanceof", "Object", "goto")) {
            must(!Pattern.compile("\\b" + bad + "\\b").matcher(code).find(), "the text has " + bad);
        }
        must(!code.contains("->") && !code.contains("::") && !code.contains("@"), "no lambda, no method reference, no mark");
        must(source.chars().allMatch(c -> c == '\n' || c >= 32 && c < 127), "plain signs only");
        Matcher library = Pattern.compile("\\b(Math|Integer|System|Long|Arrays|String)\\.(\\w+)").matcher(code);
        Set<String> allowed = Set.of("abs", "min", "max", "bitCount", "numberOfTrailingZeros", "arraycopy");
        while (library.find()) must(allowed.contains(library.group(2)), "the library's " + library.group());
        Matcher loops = Pattern.compile("\\bwhile \\((true|1)").matcher(code);
        must(!loops.find(), "a loop without an end");
        methodLengths(code);
    }

    private static void methodLengths(String code) {
        String[] lines = code.split("\n");
        int from = -1;
        for (int i = 0; i < lines.length; i++) {
            if (lines[i].matches("( {4}| {8})(public |private |static |final )*[\\w\\[\\]]+ ?\\w*\\(.*\\) \\{")
                && !lines[i].matches(" *(if|for|while|switch).*")) {
                from = i;
            }
            if (from >= 0 && lines[i].equals(lines[from].replaceAll("\\S.*", "") + "}")) {
                must(i - from < 60, "a method of " + (i - from + 1) + " lines: " + lines[from].trim());
                from = -1;
            }
        }
    }
}
