import java.io.PrintWriter;
import java.io.StringWriter;
import java.net.URI;
import java.nio.file.Path;
import java.util.ArrayList;
import java.util.HashMap;
import java.util.HashSet;
import java.util.List;
import java.util.Map;
import java.util.Optional;
import java.util.Set;
import java.util.TreeMap;
import java.util.TreeSet;
import java.util.regex.Matcher;
import java.util.regex.Pattern;
import java.util.spi.ToolProvider;

/** Rule 11 of LANGUAGE.md: calls that are no recursion go at most eight deep. Methods that call one another count once. */
public final class DepthTest {
    private static final int DEEPEST = 8;
    private static final Pattern METHOD = Pattern.compile("  \\S.*?([\\w$]+)\\(.*\\);");
    private static final Pattern CALL = Pattern.compile(".*: invoke\\w+ .*// (?:Interface)?Method ([^:]+):.*");

    private final Map<String, Set<String>> calls = new TreeMap<>();
    private final Map<String, Set<String>> reached = new HashMap<>();
    private final Map<String, List<String>> chains = new HashMap<>();

    public static void main(String[] args) throws Exception {
        Optional<ToolProvider> javap = ToolProvider.findFirst("javap");
        if (javap.isEmpty()) {
            System.out.println("not looked at: this Java has no javap");
            return;
        }
        DepthTest test = new DepthTest();
        test.take(OneWord.class, javap.get());
        for (Class<?> inner : OneWord.class.getDeclaredClasses()) test.take(inner, javap.get());
        int wrong = test.calls.containsKey("OneWord.soonest") ? 0 : 1;
        if (wrong != 0) System.out.println("javap tells nothing of the class: " + test.calls.keySet());
        for (String name : new TreeSet<>(test.calls.keySet())) {
            List<String> chain = test.chainFrom(name);
            if (chain.size() > DEEPEST) {
                wrong++;
                System.out.println(chain.size() + " deep: " + chain);
            }
        }
        System.out.println(wrong == 0 ? "no call goes deeper than " + DEEPEST : wrong + " things are not as due");
        if (wrong != 0) System.exit(1);
    }

    private void take(Class<?> c, ToolProvider javap) throws Exception {
        URI place = c.getProtectionDomain().getCodeSource().getLocation().toURI();
        StringWriter out = new StringWriter();
        javap.run(new PrintWriter(out), new PrintWriter(out), "-c", "-p", Path.of(place).resolve(c.getName() + ".class").toString());
        String current = c.getName();
        for (String line : out.toString().split("\\R")) {
            Matcher method = METHOD.matcher(line);
            Matcher call = CALL.matcher(line);
            if (method.matches()) {
                String name = method.group(1);
                current = c.getName() + "." + (c.getName().equals(name) ? "<init>" : name);
                calls.computeIfAbsent(current, k -> new TreeSet<>());
            } else if (call.matches()) {
                String name = call.group(1).replace("\"", "");
                calls.computeIfAbsent(current, k -> new TreeSet<>()).add(name.contains(".") ? name : c.getName() + "." + name);
            }
        }
    }

    private Set<String> reachedFrom(String name) {
        if (!reached.containsKey(name)) {
            Set<String> found = new HashSet<>();
            List<String> queue = new ArrayList<>(calls.getOrDefault(name, Set.of()));
            for (int i = 0; i < queue.size(); i++) {
                if (found.add(queue.get(i))) queue.addAll(calls.getOrDefault(queue.get(i), Set.of()));
            }
            reached.put(name, found);
        }
        return reached.get(name);
    }

    private boolean together(String a, String b) {
        return a.equals(b) || reachedFrom(a).contains(b) && reachedFrom(b).contains(a);
    }

    /** The longest chain of calls from a method on, with one name for all that call one another. */
    private List<String> chainFrom(String name) {
        if (chains.containsKey(name)) return chains.get(name);
        List<String> longest = List.of();
        for (String member : calls.keySet()) {
            if (!together(name, member)) continue;
            for (String next : calls.get(member)) {
                if (!together(name, next) && chainFrom(next).size() > longest.size()) longest = chainFrom(next);
            }
        }
        List<String> chain = new ArrayList<>(List.of(name));
        chain.addAll(longest);
        chains.put(name, chain);
        return chain;
    }
}
