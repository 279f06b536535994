import java.lang.reflect.Constructor;
import java.lang.reflect.Field;
import java.lang.reflect.Method;
import java.lang.reflect.Modifier;
import java.nio.file.Files;
import java.nio.file.Path;
import java.util.Arrays;
import java.util.HashSet;
import java.util.List;
import java.util.Set;
import java.util.TreeSet;
import java.util.regex.Matcher;
import java.util.regex.Pattern;

/** The public face, and what of LANGUAGE.md can be seen from outside or in the words of the file. */
public final class FaceTest {
    private static final String[] FACE = {
        "int row(int, int)", "int lay(int, int, int)", "int at(int, int)", "int tear(int)",
        "int copy(int, int, int, int, int)", "int mean(int)", "int text(int, int)", "int put(int, int, int)",
        "int fault(int)", "int house(int)", "int piece(int, int)", "int mark(int, int)", "int heat(int)",
        "int day()", "int touch(int, int)", "int undo(int)", "int keep(int)", "int on(int)",
        "int minute(int, int)", "int meet(int, int)", "int meets(int)", "int soon()", "int often(int, int, int)",
        "int sounds(int)", "int room(int, int)", "int right(int, int, int)", "int apart(int, int)",
        "int stairs(int)", "int doomed(int)", "int out(int)", "int late(int)", "int rates(int, int)",
        "int kinds(int, int)", "int from(int, int)", "int cat(int)", "int first(int)",
        "int odds(int, int, int, int)", "int mid(int, int, int)", "int lots(int, int)", "int asked()",
        "long upper()", "long lower()", "int count(int)", "int finding()", "int findings(int)", "long digest()",
    };

    public static void main(String[] args) throws Exception {
        Due due = new Due();
        constants(due);
        members(due);
        nested(due);
        words(due);
        due.end("FaceTest");
    }

    private static void constants(Due due) {
        due.is("BAD", NeverTogether.BAD, -1);
        due.is("FULL", NeverTogether.FULL, -2);
        due.is("FINDING", NeverTogether.FINDING, -3);
        due.is("STATE", NeverTogether.STATE, -4);
        due.is("SPENT", NeverTogether.SPENT, -6);
        due.is("NONE", NeverTogether.NONE, -9);
    }

    private static String signature(Method m) {
        StringBuilder b = new StringBuilder(m.getReturnType().getName()).append(' ').append(m.getName()).append('(');
        Class<?>[] types = m.getParameterTypes();
        for (int i = 0; i < types.length; i++) {
            b.append(i == 0 ? "" : ", ").append(types[i].getName());
        }
        return b.append(')').toString();
    }

    private static void members(Due due) {
        Set<String> visible = new TreeSet<>();
        Set<String> publicNames = new HashSet<>();
        for (Method m : NeverTogether.class.getDeclaredMethods()) {
            if (!Modifier.isPrivate(m.getModifiers())) {
                visible.add(signature(m));
                publicNames.add(m.getName());
                due.isTrue(m.getName() + " is public, not static", m.getModifiers() == Modifier.PUBLIC);
            }
        }
        due.isTrue("the methods of the face, no other: " + visible, visible.equals(new TreeSet<>(List.of(FACE))));
        for (Class<?> c : allClasses()) {
            for (Method m : c.getDeclaredMethods()) {
                if (c != NeverTogether.class || Modifier.isPrivate(m.getModifiers())) {
                    due.isTrue(c.getName() + "." + m.getName() + " has a name of its own", !publicNames.contains(m.getName()));
                }
                due.isTrue(m.getName() + " has at most seven parameters", m.getParameterCount() <= 7);
            }
        }
        Set<String> constants = new TreeSet<>();
        for (Field f : NeverTogether.class.getDeclaredFields()) {
            if (!Modifier.isPrivate(f.getModifiers())) {
                constants.add(f.getName());
                due.isTrue(f.getName() + " is a public constant", f.getType() == int.class
                    && f.getModifiers() == (Modifier.PUBLIC | Modifier.STATIC | Modifier.FINAL));
            }
        }
        due.isTrue("the constants: " + constants, constants.equals(
            new TreeSet<>(List.of("BAD", "FULL", "FINDING", "STATE", "SPENT", "NONE"))));
        Constructor<?>[] made = NeverTogether.class.getDeclaredConstructors();
        due.is("constructors", made.length, 1);
        due.isTrue("the constructor is public", made[0].getModifiers() == Modifier.PUBLIC && made[0].getParameterCount() == 0);
        due.isTrue("the class is public and final", NeverTogether.class.getModifiers() == (Modifier.PUBLIC | Modifier.FINAL));
    }

    private static List<Class<?>> allClasses() {
        List<Class<?>> all = new java.util.ArrayList<>(Arrays.asList(NeverTogether.class.getDeclaredClasses()));
        all.add(NeverTogether.class);
        return all;
    }

    private static void nested(Due due) {
        due.isTrue("at most twelve classes", allClasses().size() <= 12);
        for (Class<?> c : allClasses()) {
            int fields = 0;
            for (Field f : c.getDeclaredFields()) {
                boolean isStatic = Modifier.isStatic(f.getModifiers());
                due.isTrue(c + "." + f.getName() + ": static only if final", !isStatic || Modifier.isFinal(f.getModifiers()));
                fields += isStatic ? 0 : 1;
            }
            due.isTrue(c + " has at most twenty fields", fields <= 20);
            if (c != NeverTogether.class) {
                int m = c.getModifiers();
                due.isTrue(c + " is static, not public", Modifier.isStatic(m) && !Modifier.isPublic(m) && !Modifier.isProtected(m));
            }
        }
    }

    /** Words that the language leaves out, looked for behind the comments. */
    private static void words(Due due) throws Exception {
        String source = Files.readString(Path.of("src/main/java/NeverTogether.java"));
        String code = source.replaceAll("(?s)/\\*.*?\\*/", " ").replaceAll("//[^\n]*", " ");
        Matcher m = Pattern.compile("\\b(package|import|throw|throws|try|catch|finally|synchronized|assert|native|volatile|"
            + "transient|protected|var|yield|\\w+Exact|hashCode|toString|System\\.(?!arraycopy)\\w+|Object|Thread|Random)\\b|->|::|@|\"").matcher(code);
        while (m.find()) {
            due.isTrue("the file keeps out " + m.group(), false);
        }
        for (char c : source.toCharArray()) {
            if (c > 127) {
                due.isTrue("signs are 1 to 127", false);
            }
        }
    }
}
