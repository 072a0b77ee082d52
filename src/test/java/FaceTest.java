import java.lang.reflect.Constructor;
import java.lang.reflect.Field;
import java.lang.reflect.Method;
import java.lang.reflect.Modifier;
import java.nio.file.Files;
import java.nio.file.Path;
import java.util.Arrays;
import java.util.TreeSet;

/** The class has the face that the document tells and no other, and keeps what of LANGUAGE.md is plain to see. */
public final class FaceTest {
    private static int wrong = 0;

    public static void main(String[] args) throws Exception {
        String doc = Files.readString(Path.of("../shared/DOC.md"));
        String block = doc.substring(doc.indexOf("```java"), doc.indexOf("```", doc.indexOf("```java") + 3));
        TreeSet<String> want = new TreeSet<>();
        for (String line : block.split("\n")) {
            String text = line.trim();
            if (text.startsWith("public ") && text.endsWith(";")) {
                want.add(text.replaceAll("(\\w+) \\w+([,)])", "$1$2").replaceAll(" = .*;", ";"));
            }
        }
        TreeSet<String> got = new TreeSet<>();
        TreeSet<String> names = new TreeSet<>();
        Class<?> face = TermStrategies.class;
        check(face.getModifiers() == (Modifier.PUBLIC | Modifier.FINAL), "the class is public and final");
        for (Constructor<?> c : face.getDeclaredConstructors()) {
            got.add(Modifier.toString(c.getModifiers()) + " TermStrategies" + parameters(c.getParameterTypes()));
        }
        for (Method m : face.getDeclaredMethods()) {
            if (!Modifier.isPrivate(m.getModifiers())) {
                names.add(m.getName());
                got.add(Modifier.toString(m.getModifiers()) + " " + m.getReturnType() + " " + m.getName()
                    + parameters(m.getParameterTypes()));
            }
        }
        for (Field f : face.getDeclaredFields()) {
            if (!Modifier.isPrivate(f.getModifiers())) {
                got.add(Modifier.toString(f.getModifiers()) + " " + f.getType() + " " + f.getName() + ";");
            }
        }
        check(want.size() == 40, "40 lines in the document, not " + want.size());
        check(got.equals(want), "the face is that of the document: " + got + " beside " + want);
        classes(face, names);
        source();
        if (wrong != 0) {
            System.exit(1);
        }
        System.out.println("the face is as due");
    }

    private static void classes(Class<?> face, TreeSet<String> names) {
        Class<?>[] inner = face.getDeclaredClasses();
        check(inner.length <= 11, "some twelve classes");
        for (Class<?> c : inner) {
            check(Modifier.isPrivate(c.getModifiers()) && Modifier.isStatic(c.getModifiers()), c + " is private and static");
        }
        Class<?>[] all = Arrays.copyOf(inner, inner.length + 1);
        all[inner.length] = face;
        for (Class<?> c : all) {
            int fields = 0;
            for (Field f : c.getDeclaredFields()) {
                boolean isStatic = Modifier.isStatic(f.getModifiers());
                fields += isStatic ? 0 : 1;
                check(!isStatic || Modifier.isFinal(f.getModifiers()), f + " is final");
            }
            check(fields <= 20, c + " has some twenty fields");
            for (Method m : c.getDeclaredMethods()) {
                check(m.getParameterCount() <= 7, m + " takes seven parameters at most");
                check(c == face && !Modifier.isPrivate(m.getModifiers()) || !names.contains(m.getName()),
                    m + " bears no public name");
                check(!m.isSynthetic(), m + " is written out");
            }
        }
    }

    private static void source() throws Exception {
        String text = Files.readString(Path.of("src/main/java/TermStrategies.java"));
        String code = text.replaceAll("(?s)/\\*.*?\\*/", "").replaceAll("//[^\n]*", "");
        for (String never : new String[] {"->", "::", "catch", "throw", "try {", "finally", "synchronized", "assert",
            "static {", "instanceof", "java.lang.", "System.nano", "System.current", "while (true)", "for (;;)", "package "}) {
            check(!code.contains(never), "no " + never);
        }
        check(code.replaceAll("(?s)import java.util.Arrays;", "").indexOf("import") < 0, "no import but Arrays");
        check(text.chars().allMatch(c -> c == '\n' || c >= 32 && c < 127), "signs 32 to 126 alone");
        int open = 0;
        int from = 0;
        String[] lines = text.split("\n");
        for (int i = 0; i < lines.length; i++) {
            boolean isHead = lines[i].matches(" {4}( {4})?(public |private |static )*[\\w\\[\\]<>]+ \\w+\\(.*\\{");
            if (isHead) {
                from = i;
                open = lines[i].indexOf(lines[i].trim());
            } else if (lines[i].equals(" ".repeat(open) + "}") && from > 0) {
                check(i - from <= 62, "a method stays short: " + lines[from]);
                from = 0;
            }
        }
    }

    private static String parameters(Class<?>[] types) {
        StringBuilder out = new StringBuilder("(");
        for (Class<?> t : types) {
            out.append(out.length() == 1 ? "" : ", ").append(t);
        }
        return out + ");";
    }

    private static void check(boolean is, String what) {
        if (!is) {
            wrong++;
            System.out.println("not so: " + what);
        }
    }
}
