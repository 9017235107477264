import java.lang.reflect.Constructor;
import java.lang.reflect.Field;
import java.lang.reflect.Method;
import java.lang.reflect.Modifier;
import java.nio.file.Files;
import java.nio.file.Path;
import java.util.ArrayList;
import java.util.Arrays;
import java.util.List;
import java.util.regex.Matcher;
import java.util.regex.Pattern;
import java.util.stream.Collectors;
import java.util.stream.Stream;

/** The face, as ../shared/DOC.md shows it: constants, calls, their sections; and that each promise has tests. */
public final class FaceTest {
    private static final Pattern CALL = Pattern.compile("public (int|long) (\\w+)\\((.*)\\);");
    private static final Pattern CONSTANTS = Pattern.compile("public static final (int|long) (.*);");
    private static final Pattern SECTION = Pattern.compile("Ahead of the calls (.*) the interface says: (---- .*)\\.");
    private static final Pattern PROMISE = Pattern.compile("## Promise (\\d+): (.*)\n\n`(.*?)`:");
    private final Due due = new Due();
    private final String document;
    private final String face;
    private final String program;

    private FaceTest(String doc, String code) {
        document = doc;
        int begins = doc.indexOf("```java");
        face = doc.substring(begins, doc.indexOf("```", begins + 7));
        program = code;
    }

    private void is(String what, boolean holds) {
        due.is(what, holds ? 1 : 0, 1);
    }

    private static Class<?> type(String name) {
        return name.equals("long") ? long.class : int.class;
    }

    private void theClass() {
        due.sentence(1, "public final class KnifeDesk");
        is("public and final", KnifeDesk.class.getModifiers() == (Modifier.PUBLIC | Modifier.FINAL));
        due.isText("without a package", KnifeDesk.class.getPackageName(), "");
        is("of no other class", KnifeDesk.class.getSuperclass() == Object.class && KnifeDesk.class.getInterfaces().length == 0);
        due.sentence(1, "public KnifeDesk()");
        Constructor<?>[] all = KnifeDesk.class.getDeclaredConstructors();
        due.is("constructors", all.length, 1);
        is("public", Modifier.isPublic(all[0].getModifiers()));
        due.is("arguments", all[0].getParameterCount(), 0);
    }

    private void constants() throws Exception {
        due.sentence(1, "public static final");
        int told = 0;
        Matcher m = CONSTANTS.matcher(face);
        while (m.find()) {
            for (String one : m.group(2).split(", ")) {
                String[] parts = one.split(" = ");
                Field f = KnifeDesk.class.getDeclaredField(parts[0]);
                is(parts[0] + " is public static final", f.getModifiers() == (Modifier.PUBLIC | Modifier.STATIC | Modifier.FINAL));
                is(parts[0] + " is " + m.group(1), f.getType() == type(m.group(1)));
                long value = parts[1].equals("Long.MIN_VALUE") ? Long.MIN_VALUE : Long.parseLong(parts[1]);
                due.is(parts[0], f.getLong(null), value);
                told++;
            }
        }
        due.is("constants of the document", told, 5);
        due.is("public fields", KnifeDesk.class.getFields().length, told);
    }

    private static Class<?>[] types(String arguments) {
        if (arguments.isEmpty()) {
            return new Class<?>[0];
        }
        return Arrays.stream(arguments.split(", ")).map(a -> type(a.split(" ")[0])).toArray(Class<?>[]::new);
    }

    private void calls() throws Exception {
        due.sentence(1, "The public face");
        int told = 0;
        int at = 0;
        Matcher m = CALL.matcher(face);
        while (m.find()) {
            Method call = KnifeDesk.class.getDeclaredMethod(m.group(2), types(m.group(3)));
            is(m.group() + " answers " + m.group(1), call.getReturnType() == type(m.group(1)));
            is(m.group() + " is public alone", call.getModifiers() == Modifier.PUBLIC);
            due.is(m.group() + " throws", call.getExceptionTypes().length, 0);
            // arguments bear the document's names, calls come in its order
            String head = m.group().replace(";", " {");
            int found = program.indexOf(head);
            is(head + " stands behind the one ahead", found > at);
            at = Math.max(at, found);
            told++;
        }
        due.is("calls of the document", told, 33);
        long open = Arrays.stream(KnifeDesk.class.getDeclaredMethods()).filter(c -> Modifier.isPublic(c.getModifiers())).count();
        due.is("public calls", open, told);
    }

    private void sections() {
        due.sentence(1, "Ahead of the calls .. the interface says: ---- ..");
        int told = 0;
        Matcher m = SECTION.matcher(document);
        while (m.find()) {
            int begins = program.indexOf("    // " + m.group(2) + "\n");
            is("the program says " + m.group(2), begins >= 0);
            int ends = program.indexOf("    // ----", begins + 1);
            List<String> names = new ArrayList<>();
            Matcher call = Pattern.compile("\n    public \\w+ (\\w+)\\(").matcher(program.substring(Math.max(0, begins), ends));
            while (call.find()) {
                names.add("`" + call.group(1) + "`");
            }
            due.isText("the calls behind " + m.group(2), String.join(", ", names), m.group(1));
            told++;
        }
        due.is("sections of the document", told, 6);
    }

    /** Each promise is of one call, and the tests name it. */
    private void promises(String tests) {
        due.sentence(1, "numbered promises");
        int told = 0;
        Matcher m = PROMISE.matcher(document);
        while (m.find()) {
            told++;
            due.is("the number of " + m.group(2), Integer.parseInt(m.group(1)), told);
            is(m.group(3) + " is in the face", face.contains("public " + m.group(3) + ";"));
            is("promise " + told + " has tests", tests.contains("due.promise(" + told + ")") && tests.contains("due.sentence(" + told + ","));
        }
        due.is("promises", told, 34);
    }

    public static void main(String[] args) throws Exception {
        String doc = Files.readString(Path.of("../shared/DOC.md"));
        String code = Files.readString(Path.of("src/main/java/KnifeDesk.java"));
        StringBuilder tests = new StringBuilder();
        try (Stream<Path> files = Files.list(Path.of("src/test/java"))) {
            for (Path file : files.sorted().collect(Collectors.toList())) {
                tests.append(Files.readString(file));
            }
        }
        FaceTest test = new FaceTest(doc, code);
        test.theClass();
        test.constants();
        test.calls();
        test.sections();
        test.promises(tests.toString());
        test.due.end("FaceTest");
    }
}
