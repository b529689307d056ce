import java.lang.reflect.InvocationTargetException;
import java.lang.reflect.Method;
import java.nio.file.Files;
import java.nio.file.Path;
import java.util.ArrayList;
import java.util.Comparator;
import java.util.List;
import java.util.Map;
import java.util.TreeMap;

/**
 * Runs each test of a boundary and holds the words that it stands for against the document: they must stand there, and
 * no word of a promise or of the terms may be without a test. With the argument "words" it tells what each test stands for.
 */
public final class BoundariesTest {
    private static final Path DOCUMENT = Path.of("../shared/DOC.md");
    private static final int PROMISES = 25;
    private static final List<Class<?>> ALL =
        List.of(BoundariesOfTalk.class, BoundariesOfTongue.class, BoundariesOfReading.class, BoundariesOfCrowd.class);

    public static void main(String[] args) throws Exception {
        List<Method> tests = tests();
        int wrong = 0;
        for (Method test : tests) {
            Of of = test.getAnnotation(Of.class);
            String name = of.part() + ", \"" + of.says() + "\" (" + test.getName() + ")";
            if (args.length > 0 && args[0].equals("words")) System.out.println(name);
            Boundaries.begin(name);
            try {
                test.invoke(null);
            } catch (InvocationTargetException e) {
                wrong++;
                System.out.println(name + " threw " + e.getCause());
            }
        }
        wrong += Boundaries.howManyWrong() + wrongWords(tests, parts());
        System.out.println(wrong == 0 ? tests.size() + " boundaries hold" : wrong + " things are not as due");
        if (wrong != 0) System.exit(1);
    }

    private static List<Method> tests() {
        List<Method> tests = new ArrayList<>();
        for (Class<?> each : ALL) {
            List<Method> found = new ArrayList<>();
            for (Method m : each.getDeclaredMethods()) {
                if (m.isAnnotationPresent(Of.class)) found.add(m);
            }
            found.sort(Comparator.comparing(Method::getName));
            tests.addAll(found);
        }
        return tests;
    }

    /** The parts of the document by what stands in their headings ahead of a colon, blanks made one. */
    private static Map<String, String> parts() throws Exception {
        Map<String, String> parts = new TreeMap<>();
        String name = "";
        for (String line : Files.readAllLines(DOCUMENT)) {
            if (line.startsWith("## ")) name = line.substring(3).replaceAll(":.*", "");
            else parts.merge(name, line.trim(), (a, b) -> (a + " " + b).replaceAll("\\s+", " "));
        }
        return parts;
    }

    private static int wrongWords(List<Method> tests, Map<String, String> parts) {
        int wrong = 0;
        Map<String, String> left = new TreeMap<>(parts);
        for (Method test : tests) {
            Of of = test.getAnnotation(Of.class);
            if (!parts.getOrDefault(of.part(), "").contains(of.says())) {
                wrong++;
                System.out.println(test.getName() + ": " + of.part() + " does not say: " + of.says());
            }
            left.computeIfPresent(of.part(), (part, words) -> without(words, parts.get(part), of.says()));
        }
        wrong += unwatched("Terms", left.getOrDefault("Terms", "it is not there").replaceAll("```(text)?|==== \\d\\.", ""));
        for (int i = 1; i <= PROMISES; i++) {
            String part = "Promise " + i;
            wrong += unwatched(part, left.getOrDefault(part, "it is not there").replaceAll("^ *`[^`]*`:", ""));
        }
        return wrong;
    }

    private static int unwatched(String part, String words) {
        if (!words.matches(".*\\w.*")) return 0;
        System.out.println(part + " has words without a test: " + words.replaceAll("~+", "~"));
        return 1;
    }

    /** What is left of a part when these words are crossed out wherever it says them. */
    private static String without(String left, String whole, String says) {
        StringBuilder crossed = new StringBuilder(left);
        for (int at = whole.indexOf(says); at >= 0; at = whole.indexOf(says, at + 1)) {
            for (int i = 0; i < says.length(); i++) crossed.setCharAt(at + i, '~');
        }
        return crossed.toString();
    }
}
