import java.nio.file.Files;
import java.nio.file.Path;
import java.util.HashSet;
import java.util.Map;
import java.util.Set;
import java.util.TreeMap;
import java.util.TreeSet;
import java.util.regex.Matcher;
import java.util.regex.Pattern;

/** What LANGUAGE.md says of the size and the depth of methods, and of what they make, seen in the words of the file. */
public final class LanguageTest {
    private static final Pattern HEAD = Pattern.compile("(?m)^( {4}| {8})(?! )([\\w\\[\\] ]*?)(\\w+)\\([^()]*\\) \\{$");
    private static final Set<String> RECURSIONS = Set.of("search", "endsApart", "endsApartBy");

    private final Due due = new Due();
    /** Bodies by name: those of one name in several classes are taken for one, so no depth comes out too small. */
    private final Map<String, String> bodies = new TreeMap<>();
    private final Set<String> makers = new HashSet<>();

    public static void main(String[] args) throws Exception {
        LanguageTest test = new LanguageTest();
        String source = Files.readString(Path.of("src/main/java/NeverTogether.java"));
        test.read(source.replaceAll("(?s)/\\*.*?\\*/", " ").replaceAll("//[^\n]*", " "));
        test.depths();
        test.made();
        test.due.end("LanguageTest");
    }

    private void read(String code) {
        Matcher m = HEAD.matcher(code);
        while (m.find()) {
            String name = m.group(3);
            int end = code.indexOf("\n" + m.group(1) + "}\n", m.end() - 1);
            due.isTrue(name + " has an end", end > 0);
            String body = code.substring(m.end(), Math.max(end, m.end()));
            due.isTrue("rule 11: " + name + " has at most sixty lines", body.lines().count() <= 60);
            bodies.merge(name, body, String::concat);
            if (m.group(2).isBlank() || m.group(2).equals("public ")) {
                makers.add(name);
            }
        }
        due.isTrue("the methods are read: " + bodies.size(), bodies.size() > 100);
        due.isTrue("the constructors are read: " + makers, makers.equals(Set.of("NeverTogether", "Shelf", "House")));
    }

    private Set<String> calledBy(String name) {
        Set<String> called = new TreeSet<>();
        Matcher m = Pattern.compile("(\\w+)\\(").matcher(bodies.get(name));
        while (m.find()) {
            if (bodies.containsKey(m.group(1))) {
                called.add(m.group(1));
            }
        }
        return called;
    }

    private void depths() {
        for (String name : bodies.keySet()) {
            String deepest = deepest(name, new HashSet<>());
            due.isTrue("rule 11: calls go at most eight deep: " + deepest, deepest.split(" ").length <= 8);
        }
    }

    /** The longest row of calls from a method on; recursions are gone through once. */
    private String deepest(String name, Set<String> open) {
        open.add(name);
        String deepest = "";
        for (String called : calledBy(name)) {
            if (open.contains(called)) {
                due.isTrue("rule 8: a recursion has a guard: " + called, RECURSIONS.contains(called));
                continue;
            }
            String rest = deepest(called, open);
            deepest = rest.split(" ").length > deepest.split(" ").length || deepest.isEmpty() ? rest : deepest;
        }
        open.remove(name);
        return deepest.isEmpty() ? name : name + " " + deepest;
    }

    private void made() {
        for (Map.Entry<String, String> method : bodies.entrySet()) {
            boolean makes = Pattern.compile("\\bnew\\b|\\.clone\\(|\\bcopyOf").matcher(method.getValue()).find();
            due.isTrue("rule 12: only constructors make something: " + method.getKey(), !makes || makers.contains(method.getKey()));
        }
    }
}
