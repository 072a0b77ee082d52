import java.io.PrintWriter;
import java.io.StringWriter;
import java.net.URL;
import java.nio.file.Files;
import java.nio.file.Path;
import java.util.ArrayList;
import java.util.HashMap;
import java.util.List;
import java.util.Map;
import java.util.TreeSet;
import java.util.regex.Matcher;
import java.util.regex.Pattern;
import java.util.spi.ToolProvider;

/** Calls go at most eight deep, those of the library counted too, and none comes back to itself. */
public final class DepthTest {
    private static final int MOST = 8;
    private static final Pattern HEAD = Pattern.compile("  \\S.*?([\\w$]+)\\(.*\\)( throws .*)?;|  static \\{\\};");
    private static final Pattern CALL = Pattern.compile(".*// (?:Interface)?Method (?:([\\w/$]+)\\.)?\"?([\\w<>]+)\"?:.*");
    private static final Map<String, TreeSet<String>> CALLS = new HashMap<>();
    private static final Map<String, Integer> DEPTHS = new HashMap<>();
    private static int wrong = 0;

    public static void main(String[] args) throws Exception {
        ToolProvider javap = ToolProvider.findFirst("javap").orElseThrow();
        List<String> files = classes();
        for (String file : files) {
            StringWriter out = new StringWriter();
            PrintWriter writer = new PrintWriter(out);
            if (javap.run(writer, writer, "-p", "-c", file) != 0) {
                tell("javap can't read " + file);
            }
            read(Path.of(file).getFileName().toString().replace(".class", ""), out.toString());
        }
        int deepest = 0;
        for (String method : new TreeSet<>(CALLS.keySet())) {
            int deep = depth(method, new ArrayList<>());
            deepest = Math.max(deepest, deep);
            if (deep > MOST) {
                tell(method + " goes " + deep + " deep");
            }
        }
        if (files.size() < 2 || deepest < 5 || CALLS.size() < 100) {
            tell("too little was read: " + files.size() + " classes, " + CALLS.size() + " methods");
        }
        if (wrong != 0) {
            System.exit(1);
        }
        System.out.println("the deepest call of " + CALLS.size() + " methods goes " + deepest + " deep");
    }

    private static void tell(String what) {
        wrong++;
        System.out.println(what);
    }

    private static List<String> classes() throws Exception {
        URL face = TermStrategies.class.getResource("TermStrategies.class");
        List<String> found = new ArrayList<>();
        try (var files = Files.newDirectoryStream(Path.of(face.toURI()).getParent(), "TermStrategies{,$*}.class")) {
            for (Path file : files) {
                found.add(file.toString());
            }
        }
        return found;
    }

    private static void read(String owner, String text) {
        TreeSet<String> made = new TreeSet<>();
        for (String line : text.split("\\R")) {
            Matcher head = HEAD.matcher(line);
            Matcher call = CALL.matcher(line);
            if (head.matches()) {
                String name = head.group(1) == null ? "<clinit>" : head.group(1).equals(owner) ? "<init>" : head.group(1);
                made = CALLS.computeIfAbsent(owner + "." + name, k -> new TreeSet<>());
            } else if (call.matches()) {
                made.add((call.group(1) == null ? owner : call.group(1)) + "." + call.group(2));
            }
        }
    }

    /** How many calls stand on one another, this one being the first; a call of the library is one. */
    private static int depth(String method, List<String> above) {
        if (above.contains(method)) {
            tell(method + " comes back to itself: " + above);
            return 0;
        }
        Integer known = DEPTHS.get(method);
        if (known != null) {
            return known;
        }
        above.add(method);
        int deep = 1;
        for (String called : CALLS.getOrDefault(method, new TreeSet<>())) {
            deep = Math.max(deep, 1 + depth(called, above));
        }
        above.remove(method);
        DEPTHS.put(method, deep);
        return deep;
    }
}
