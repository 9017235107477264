import java.net.URL;
import java.net.URLClassLoader;
import java.nio.file.Files;
import java.nio.file.Path;
import java.util.ArrayList;
import java.util.List;
import java.util.regex.Matcher;
import java.util.regex.Pattern;
import javax.tools.ToolProvider;

/** What README.md says that the calls of its examples answer: the examples are compiled as they stand there. */
public final class ReadmeTest {
    private static final Pattern ANSWERED = Pattern.compile("(?m)^(desk\\.\\w+\\(.*?\\)); +// -> ([\\w.-]+).*$");
    private static final Path FOLDER = Path.of("build/readme");

    /** The example's calls that have an arrow put their names, answers and what is due on a list. */
    private static String method(String example, int number) {
        Matcher m = ANSWERED.matcher(example);
        return "    public static void example" + number + "(java.util.List<Object[]> told) {\n"
            + m.replaceAll("told.add(new Object[] {\"$1\", (long) $1, (long) $2});") + "    }\n";
    }

    private static Class<?> compiled(String code) throws Exception {
        Files.createDirectories(FOLDER);
        Path file = FOLDER.resolve("ReadmeExamples.java");
        Files.writeString(file, code);
        int failed = ToolProvider.getSystemJavaCompiler().run(null, null, null, "-nowarn", "-cp", System.getProperty("java.class.path"),
            "-d", FOLDER.toString(), file.toString());
        return failed != 0 ? null : new URLClassLoader(new URL[] {FOLDER.toUri().toURL()}, ReadmeTest.class.getClassLoader()).loadClass("ReadmeExamples");
    }

    public static void main(String[] args) throws Exception {
        Due due = new Due();
        due.sentence(1, "README.md says how to use the class");
        String page = Files.readString(Path.of("README.md"));
        Matcher example = Pattern.compile("(?s)```java\n(.*?)```").matcher(page);
        StringBuilder code = new StringBuilder("public final class ReadmeExamples {\n");
        int examples = 0;
        while (example.find()) {
            code.append(method(example.group(1), examples));
            examples++;
        }
        Class<?> all = compiled(code.append("}\n").toString());
        due.is("the examples can be compiled", all == null ? 0 : 1, 1);
        for (int k = 0; all != null && k < examples; k++) {
            List<Object[]> told = new ArrayList<>();
            all.getMethod("example" + k, List.class).invoke(null, told);
            due.is("example " + k + " has answers", told.isEmpty() ? 0 : 1, 1);
            for (Object[] one : told) {
                due.is((String) one[0], (Long) one[1], (Long) one[2]);
            }
        }
        due.is("all arrows are looked at", page.split("// -> ", -1).length - 1, code.toString().split("told.add", -1).length - 1);
        // each call stands in the tables
        for (java.lang.reflect.Method m : KnifeDesk.class.getMethods()) {
            if (m.getDeclaringClass() == KnifeDesk.class) {
                due.is("README.md tells of " + m.getName(), page.contains("`" + m.getName() + "(") ? 1 : 0, 1);
            }
        }
        due.end("ReadmeTest");
    }
}
