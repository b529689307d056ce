import java.lang.reflect.InvocationTargetException;
import java.lang.reflect.Method;
import java.nio.file.Files;
import java.nio.file.Path;
import java.util.ArrayList;
import java.util.HashMap;
import java.util.HashSet;
import java.util.List;
import java.util.Map;
import java.util.Set;
import java.util.regex.Matcher;
import java.util.regex.Pattern;

/** Runs the calls that README.md shows, one behind the other on one object, and holds the answers against its own. */
public final class ReadmeTest {
    private static final Path README = Path.of("README.md");
    private static final Path THIS = Path.of("src/test/java/ReadmeTest.java");
    private static final Pattern CALL = Pattern.compile("word\\.(\\w+)\\(([^)]*)\\); +// (-?\\w+)\\b.*");
    private static final Pattern TEXT = Pattern.compile("feedText\\(word, \"([^\"]*)\"\\);");
    private static final String NEW = "OneWord word = new OneWord();";

    private final OneWord word = new OneWord();
    private final Map<String, Method> face = new HashMap<>();
    private final Set<String> shown = new HashSet<>();
    private int made = 0;
    private int wrong = 0;

    private ReadmeTest() {
        for (Method m : OneWord.class.getMethods()) {
            if (m.getDeclaringClass() == OneWord.class) face.put(m.getName(), m);
        }
    }

    public static void main(String[] args) throws Exception {
        ReadmeTest test = new ReadmeTest();
        List<String> helper = helper();
        for (List<String> block : blocks()) {
            if (block.equals(helper)) test.made++;
            else for (String line : block) test.run(line);
        }
        test.must(test.made == 2, "README.md shows one new object, and feedText as it stands here");
        test.must(test.shown.equals(test.face.keySet()), "README.md shows each call; these alone: " + test.shown);
        System.out.println(test.wrong == 0 ? "README.md is as due" : test.wrong + " things in README.md are not as due");
        if (test.wrong != 0) System.exit(1);
    }

    static void feedText(OneWord word, String text) {
        for (int from = 0; from < text.length(); from += 20) {
            int[] five = new int[5];
            for (int i = 0; i < 20 && from + i < text.length(); i++) {
                five[i / 4] |= text.charAt(from + i) << 24 - 8 * (i % 4);
            }
            word.feed(five[0], five[1], five[2], five[3], five[4]);
        }
    }

    /** The lines of feedText, as a reader of README.md would write them. */
    private static List<String> helper() throws Exception {
        List<String> lines = new ArrayList<>();
        for (String line : Files.readAllLines(THIS)) {
            boolean begins = line.startsWith("    static void feedText(");
            if (begins || !lines.isEmpty()) lines.add(line.substring(4));
            if (!lines.isEmpty() && line.equals("    }")) return lines;
        }
        return lines;
    }

    private static List<List<String>> blocks() throws Exception {
        List<List<String>> blocks = new ArrayList<>();
        boolean within = false;
        for (String line : Files.readAllLines(README)) {
            if (line.equals("```java")) {
                blocks.add(new ArrayList<>());
                within = true;
            } else if (line.equals("```")) {
                within = false;
            } else if (within) {
                blocks.get(blocks.size() - 1).add(line);
            }
        }
        return blocks;
    }

    private void run(String line) throws IllegalAccessException {
        Matcher text = TEXT.matcher(line);
        Matcher call = CALL.matcher(line);
        if (line.equals(NEW)) made++;
        else if (text.matches()) feedText(word, text.group(1));
        else if (call.matches() && face.containsKey(call.group(1))) answer(line, call);
        else must(false, "README.md shows what is no call: " + line);
    }

    private void answer(String line, Matcher call) throws IllegalAccessException {
        Method method = face.get(call.group(1));
        shown.add(method.getName());
        String[] told = call.group(2).isEmpty() ? new String[0] : call.group(2).split(", ");
        Object[] numbers = new Object[told.length];
        for (int i = 0; i < told.length; i++) numbers[i] = Integer.decode(told[i]);
        try {
            String got = method.invoke(word, numbers).toString();
            must(got.equals(call.group(3)), "README.md: " + line + " but it is " + got);
        } catch (IllegalArgumentException | InvocationTargetException e) {
            must(false, "README.md: " + line + " can't be called so: " + e);
        }
    }

    private void must(boolean holds, String what) {
        if (!holds) {
            wrong++;
            System.out.println(what);
        }
    }
}
