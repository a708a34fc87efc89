import java.io.IOException;
import java.lang.reflect.Method;
import java.lang.reflect.Modifier;
import java.net.URL;
import java.net.URLClassLoader;
import java.nio.file.Files;
import java.nio.file.Path;
import java.util.ArrayList;
import java.util.List;
import java.util.regex.Matcher;
import java.util.regex.Pattern;
import java.util.stream.Stream;
import javax.tools.ToolProvider;

/** What README.md says that calls answer; run from the project's folder. */
public final class ReadmeTest {
    /** A row of an example whose answer is told: "int grudge = x.thing(1, 5, 4, 0);   // 0: a GRUDGE". */
    private static final Pattern TOLD = Pattern.compile("(int (\\w+) = )?(x\\..*);\\s+// (-?\\d+|true)\\b.*");
    private static final int LEAST_TOLD = 60;

    public static void main(String[] args) throws Exception {
        Due due = new Due();
        String page = Files.readString(Path.of("README.md"));
        for (Method m : QuinceEnd.class.getDeclaredMethods()) {
            if (!Modifier.isPublic(m.getModifiers())) {
                continue;
            }
            boolean named = Pattern.compile("\\b" + m.getName() + "\\(|`" + m.getName() + "`").matcher(page).find();
            due.is("README.md names " + m.getName(), named ? 1 : 0, 1);
        }
        List<Object[]> answers = run(sourceOf(page));
        for (Object[] answer : answers) {
            due.is("README.md: " + answer[0], (Long) answer[1], (Long) answer[2]);
        }
        due.is("answers told by README.md", Math.min(answers.size(), LEAST_TOLD), LEAST_TOLD);
        due.end();
    }

    /** One class, Examples, with a block for each example; a row's answer comes to a list beside what is told. */
    private static String sourceOf(String page) {
        StringBuilder source = new StringBuilder("public final class Examples {\n");
        source.append("public static void run(java.util.List<Object[]> answers) {\n");
        boolean inside = false;
        for (String line : page.split("\n")) {
            if (line.equals("```java")) {
                inside = true;
                source.append("{\n");
            } else if (inside && line.equals("```")) {
                inside = false;
                source.append("}\n");
            } else if (inside) {
                source.append(rowOf(line)).append('\n');
            }
        }
        return source.append("}\n}\n").toString();
    }

    private static String rowOf(String line) {
        Matcher m = TOLD.matcher(line);
        if (!m.matches()) {
            return line;
        }
        String call = m.group(3);
        boolean isTrue = m.group(4).equals("true");
        String got = m.group(2) != null ? m.group(2) : isTrue ? call + " ? 1 : 0" : call;
        String made = m.group(2) != null ? m.group(1) + call + ";\n" : "";
        String told = isTrue ? "1" : m.group(4);
        return made + "answers.add(new Object[] {\"" + call + "\", (long) (" + got + "), " + told + "L});";
    }

    private static List<Object[]> run(String source) throws Exception {
        Path folder = Files.createTempDirectory("readme");
        try {
            Path file = Files.writeString(folder.resolve("Examples.java"), source);
            int wrong = ToolProvider.getSystemJavaCompiler().run(null, null, null, "-encoding", "UTF-8", "-cp",
                System.getProperty("java.class.path"), "-d", folder.toString(), file.toString());
            if (wrong != 0) {
                throw new IllegalStateException("an example of README.md does not compile");
            }
            List<Object[]> answers = new ArrayList<>();
            try (URLClassLoader loader = new URLClassLoader(new URL[] {folder.toUri().toURL()})) {
                loader.loadClass("Examples").getMethod("run", List.class).invoke(null, answers);
            }
            return answers;
        } finally {
            remove(folder);
        }
    }

    private static void remove(Path folder) throws IOException {
        try (Stream<Path> files = Files.list(folder)) {
            for (Path file : (Iterable<Path>) files::iterator) {
                Files.delete(file);
            }
        }
        Files.delete(folder);
    }
}
