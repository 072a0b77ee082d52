import java.net.URL;
import java.net.URLClassLoader;
import java.nio.charset.StandardCharsets;
import java.nio.file.Files;
import java.nio.file.Path;
import java.util.ArrayList;
import java.util.List;
import java.util.TreeSet;
import java.util.regex.Matcher;
import java.util.regex.Pattern;
import javax.tools.JavaCompiler;
import javax.tools.ToolProvider;

/** README.md names each call of the document's face, and what it shows is compiled and answers what it says. */
public final class ReadmeTest {
    private static final Pattern SHOWN = Pattern.compile("it\\.(\\w+)\\((.*)\\);\\s+// (-?\\d+)");
    private static int wrong = 0;

    public static void main(String[] args) throws Exception {
        String readme = Files.readString(Path.of("README.md"));
        List<String> blocks = blocks(readme, "java");
        String text = "public final class ReadmeCalls {\n    public static String answers() {\n"
            + "        StringBuilder out = new StringBuilder();\n        TermStrategies it = new TermStrategies();\n"
            + calls(blocks) + "        return out.toString();\n    }\n}\n";
        Path out = Files.createTempDirectory("readme");
        try (URLClassLoader classes = compiled(out, blocks.get(0), text)) {
            due("what FirstRun prints", printed(out), blocks(readme, "text").get(0));
            due("the calls", (String) classes.loadClass("ReadmeCalls").getMethod("answers").invoke(null), "");
        } finally {
            for (String name : new String[] {"FirstRun.java", "ReadmeCalls.java", "FirstRun.class",
                "ReadmeCalls.class", ""}) {
                Files.deleteIfExists(out.resolve(name));
            }
        }
        namesEachCall(readme, blocks);
        if (wrong != 0) {
            System.exit(1);
        }
        System.out.println("README.md shows what is so");
    }

    private static List<String> blocks(String readme, String of) {
        List<String> found = new ArrayList<>();
        Matcher block = Pattern.compile("```" + of + "\n(.*?)```", Pattern.DOTALL).matcher(readme);
        while (block.find()) {
            found.add(block.group(1));
        }
        return found;
    }

    /** Each call that is shown with its answer tells when it answers another one. */
    private static String calls(List<String> blocks) {
        StringBuilder text = new StringBuilder();
        for (String line : String.join("", blocks.subList(1, blocks.size())).split("\n")) {
            Matcher call = SHOWN.matcher(line);
            if (call.matches()) {
                String made = "it." + call.group(1) + "(" + call.group(2) + ")";
                text.append("{ long got = ").append(made).append("; if (got != ").append(call.group(3))
                    .append("L) out.append(\"").append(made).append(" answered \" + got + \"; \"); }\n");
            } else {
                text.append(line).append('\n');
            }
        }
        return text.toString();
    }

    private static URLClassLoader compiled(Path out, String run, String calls) throws Exception {
        Files.writeString(out.resolve("FirstRun.java"), run);
        Files.writeString(out.resolve("ReadmeCalls.java"), calls);
        JavaCompiler javac = ToolProvider.getSystemJavaCompiler();
        int code = javac.run(null, null, null, "-cp", System.getProperty("java.class.path"), "-d", out.toString(),
            out.resolve("FirstRun.java").toString(), out.resolve("ReadmeCalls.java").toString());
        due("javac of what it shows", "" + code, "0");
        return new URLClassLoader(new URL[] {out.toUri().toURL()}, ReadmeTest.class.getClassLoader());
    }

    private static String printed(Path out) throws Exception {
        String classes = System.getProperty("java.class.path") + System.getProperty("path.separator") + out;
        Process run = new ProcessBuilder(Path.of(System.getProperty("java.home"), "bin", "java").toString(), "-cp",
            classes, "FirstRun").redirectErrorStream(true).start();
        String text = new String(run.getInputStream().readAllBytes(), StandardCharsets.UTF_8);
        run.waitFor();
        return text.replace("\r", "");
    }

    /** Each one is told, with the document's names for its arguments, and shown at least once. */
    private static void namesEachCall(String readme, List<String> blocks) throws Exception {
        String doc = Files.readString(Path.of("../shared/DOC.md"));
        TreeSet<String> shown = new TreeSet<>();
        Matcher call = SHOWN.matcher(String.join("", blocks.subList(1, blocks.size())));
        while (call.find()) {
            shown.add(call.group(1));
        }
        int calls = 0;
        for (String line : blocks(doc, "java").get(0).split("\n")) {
            Matcher face = Pattern.compile(" *public (?:int|long) (\\w+)\\((.*)\\);").matcher(line);
            if (face.matches()) {
                calls++;
                String told = face.group(1) + "(" + face.group(2).replaceAll("\\w+ (\\w+)", "$1") + ")";
                due("it tells " + told, "" + readme.contains("`" + told + "`"), "true");
                due("it shows " + face.group(1), "" + shown.contains(face.group(1)), "true");
            }
        }
        due("the calls of the face", "" + calls, "38");
    }

    private static void due(String what, String got, String want) {
        if (!got.equals(want)) {
            wrong++;
            System.out.println(what + ": " + got + ", due is " + want);
        }
    }
}
