import java.lang.reflect.Field;
import java.lang.reflect.Method;
import java.lang.reflect.Modifier;
import java.nio.file.Files;
import java.nio.file.Path;
import java.util.ArrayList;
import java.util.List;
import java.util.Set;
import java.util.TreeSet;
import java.util.regex.Matcher;
import java.util.regex.Pattern;

/** What of ../shared/LANGUAGE.md can be read off the program: its words, its face, the room and the length of its methods. */
public final class LanguageTest {
    private static final String FACE = "back begin best count cuts divides envies event exact exchange fair feed from get gets honest image "
        + "into lie list mark off paper prints set share shares span strip tells worth worths would";
    private final Due due = new Due();

    private void is(String what, boolean holds) {
        due.is(what, holds ? 1 : 0, 1);
    }

    private void words(String code) {
        String[] forbidden = {"\\bthrow\\b", "\\bthrows\\b", "\\btry\\b", "\\bcatch\\b", "\\bfinally\\b", "\\bsynchronized\\b", "\\bassert\\b",
            "->", "::", "\\bimport\\b", "\\bpackage\\b", "\\brecord\\b", "\\bvar\\b", "\\bprotected\\b", "\\bnative\\b", "\\bvolatile\\b",
            "\\bSystem\\.(?!arraycopy)", "\\bString\\.", "\\bdouble\\b", "\\bfloat\\b", "\\bRandom\\b", "\\bThread\\b", "\\binstanceof\\b",
            "\\w+Exact\\b", "@\\w+", "\\bwhile\\s*\\(true\\)", "\\bfor\\s*\\(;;"};
        for (String word : forbidden) {
            Matcher m = Pattern.compile(word).matcher(code);
            is("no " + word, !m.find());
        }
        is("only signs 1 to 127", code.chars().allMatch(c -> c < 128));
    }

    private void lengths(String[] lines) {
        int begun = -1;
        for (int i = 0; i < lines.length; i++) {
            boolean head = lines[i].matches("(    |        )(public |private |static |final )*[\\w\\[\\]]+ ?\\w*\\(.*\\) \\{");
            if (head) {
                begun = i;
            }
            if (begun >= 0 && lines[i].matches("(    |        )\\}")) {
                is("a method of at most 60 lines at line " + (begun + 1), i - begun < 60);
                begun = -1;
            }
        }
    }

    private void face() {
        Set<String> names = new TreeSet<>(Set.of(FACE.split(" ")));
        Set<String> open = new TreeSet<>();
        Set<String> hidden = new TreeSet<>();
        for (Method m : KnifeDesk.class.getDeclaredMethods()) {
            (Modifier.isPublic(m.getModifiers()) ? open : hidden).add(m.getName());
            is(m.getName() + " is public or private", Modifier.isPublic(m.getModifiers()) || Modifier.isPrivate(m.getModifiers()));
        }
        due.isText("the face", open.toString(), names.toString());
        List<Class<?>> classes = new ArrayList<>(List.of(KnifeDesk.class.getDeclaredClasses()));
        is("at most 12 classes", classes.size() + 1 <= 12);
        for (Class<?> c : classes) {
            is(c.getName() + " is static", Modifier.isStatic(c.getModifiers()) && !Modifier.isPublic(c.getModifiers()));
            for (Method m : c.getDeclaredMethods()) {
                hidden.add(m.getName());
            }
        }
        classes.add(KnifeDesk.class);
        for (Class<?> c : classes) {
            int fields = 0;
            for (Field f : c.getDeclaredFields()) {
                boolean constant = Modifier.isStatic(f.getModifiers());
                fields += constant ? 0 : 1;
                is(c.getName() + "." + f.getName() + ": static is final", !constant || Modifier.isFinal(f.getModifiers()));
            }
            is(c.getName() + " has some 20 fields at most", fields <= 20);
            for (Method m : c.getDeclaredMethods()) {
                is(m.getName() + " takes 7 at most", m.getParameterCount() <= 7);
            }
        }
        hidden.retainAll(names);
        due.isText("no other method bears a name of the face", hidden.toString(), "[]");
    }

    /** Behind the constructor no call makes an object or an array. */
    private void room(String code) {
        Matcher made = Pattern.compile("new \\w+").matcher(code);
        while (made.find()) {
            int line = code.lastIndexOf('\n', made.start()) + 1;
            String text = code.substring(line, code.indexOf('\n', made.start()));
            is("made with the desk: " + text.trim(), text.matches(".*final .* = new .*") || text.matches(" +\\w+\\[\\w\\] = new \\w+\\(\\);"));
        }
        com.sun.management.ThreadMXBean bean = (com.sun.management.ThreadMXBean) java.lang.management.ManagementFactory.getThreadMXBean();
        KnifeDesk[] desks = {busy(), busy()};
        long before = bean.getCurrentThreadAllocatedBytes();
        long sum = dearest(desks[0]);
        long between = bean.getCurrentThreadAllocatedBytes();
        sum += dearest(desks[1]);
        long after = bean.getCurrentThreadAllocatedBytes();
        is("the calls were made " + sum, sum != 0);
        is("no room taken: " + (after - between) + ", first " + (between - before), after - between < 1000);
    }

    private static KnifeDesk busy() {
        KnifeDesk x = new KnifeDesk();
        x.begin(16, 3);
        for (int i = 0; i < 3; i++) {
            for (int s = 0; s < 16; s++) {
                x.worth(i, s, 1 + (i * 7 + s * 5) % 9);
            }
        }
        return x;
    }

    private static long dearest(KnifeDesk x) {
        long sum = 0;
        for (int k = 0; k < 36; k++) {
            sum += x.lie(1 + k % 4, k % 3, (k / 3) % 3, 0) > 0 ? 1 : 2;
            sum += x.shares(1 + k % 4, k % 3) + x.exchange() + x.cuts() + x.best(k % 3, 0) + x.prints() + x.image() + x.back();
            sum += x.feed('w') + x.worths() + x.divides() + x.exact(0, 1, 0);
        }
        return sum;
    }

    public static void main(String[] args) throws Exception {
        String code = Files.readString(Path.of("src/main/java/KnifeDesk.java"));
        String bare = code.replaceAll("(?s)/\\*.*?\\*/", "").replaceAll("//[^\n]*", "");
        LanguageTest test = new LanguageTest();
        test.words(bare);
        test.lengths(code.split("\n"));
        test.face();
        test.room(bare);
        test.due.end("LanguageTest");
    }
}
