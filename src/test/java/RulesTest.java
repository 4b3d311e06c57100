import java.lang.reflect.Field;
import java.lang.reflect.Method;
import java.lang.reflect.Modifier;
import java.nio.file.Files;
import java.nio.file.Path;
import java.util.ArrayList;
import java.util.HashSet;
import java.util.List;
import java.util.Set;
import java.util.TreeSet;
import java.util.regex.Matcher;
import java.util.regex.Pattern;

/** What of LANGUAGE.md can be seen by looking: the face, words that are left out, sizes. */
public final class RulesTest {
    private static final Check CHECK = new Check();
    private static final List<String> FACE = List.of("sheet(int, int, int)", "set(int, int, int)",
        "copy(int, int, int, int, int)", "drop(int)", "feed(long, int)", "book()", "fault()", "like(int, int)",
        "price(int, int)", "bar(int, int, int)", "tick(int)", "judge(int, int)", "days(int, int, int)", "on(int, int)",
        "slip(int, int, int)", "run(int, int)", "through(int, int, int)", "cheapest(int, int)", "back(int, int)",
        "shows(int, int, int)", "fewest(int, int)", "kind(int)", "as(int, int)", "ask(int, int)", "trace(int)",
        "count(int)", "status()");
    private static final Set<String> NAMES = namesOf(FACE);

    public static void main(String[] args) throws Exception {
        face();
        String source = Files.readString(Path.of("src/main/java/HandBook.java"));
        String code = source.replaceAll("(?s)/\\*.*?\\*/", "").replaceAll("//[^\n]*", "");
        words(code);
        sizes(source);
        rows();
        CHECK.end("RulesTest");
    }

    private static void face() {
        Set<String> seen = new TreeSet<>();
        for (Method m : HandBook.class.getDeclaredMethods()) {
            if (m.isSynthetic()) {
                continue;
            }
            boolean open = Modifier.isPublic(m.getModifiers());
            CHECK.holds(m.getName() + " is public or private", open || Modifier.isPrivate(m.getModifiers()));
            CHECK.holds(m.getName() + " is of the face only if public", open == NAMES.contains(m.getName()));
            if (open) {
                seen.add(toldAs(m));
                CHECK.holds(m.getName() + " answers an int", m.getReturnType() == int.class);
                CHECK.holds(m.getName() + " is no static method", !Modifier.isStatic(m.getModifiers()));
            }
        }
        CHECK.holds("the face is " + seen, seen.equals(new TreeSet<>(FACE)));
        for (Field f : HandBook.class.getDeclaredFields()) {
            boolean constant = Set.of("NONE", "BAD", "STATE", "FULL").contains(f.getName());
            CHECK.holds(f.getName(), constant == Modifier.isPublic(f.getModifiers())
                && constant != Modifier.isPrivate(f.getModifiers()));
            boolean fixed = Modifier.isStatic(f.getModifiers()) && Modifier.isFinal(f.getModifiers());
            CHECK.holds(f.getName() + " is an int that stays", !constant || fixed && f.getType() == int.class);
        }
        CHECK.is("constructors", HandBook.class.getDeclaredConstructors().length, 1);
        CHECK.is("public ones", HandBook.class.getConstructors().length, 1);
        CHECK.is("what it takes", HandBook.class.getConstructors()[0].getParameterCount(), 0);
        CHECK.holds("final", Modifier.isFinal(HandBook.class.getModifiers()));
        CHECK.holds("at most twelve classes", 1 + HandBook.class.getDeclaredClasses().length <= 12);
        for (Class<?> c : HandBook.class.getDeclaredClasses()) {
            CHECK.holds(c.getName() + " is static", Modifier.isStatic(c.getModifiers()));
            for (Method m : c.getDeclaredMethods()) {
                CHECK.holds(m.getName() + " bears no name of the face", !NAMES.contains(m.getName()));
                CHECK.holds(m.getName() + " takes at most seven", m.getParameterCount() <= 7);
            }
            int fields = 0;
            for (Field f : c.getDeclaredFields()) {
                boolean fixed = Modifier.isStatic(f.getModifiers());
                CHECK.holds(f.getName() + ", if static, is final", !fixed || Modifier.isFinal(f.getModifiers()));
                fields += fixed ? 0 : 1;
            }
            CHECK.holds(c.getName() + " has at most twenty fields", fields <= 20);
        }
    }

    private static Set<String> namesOf(List<String> face) {
        Set<String> names = new TreeSet<>();
        for (String told : face) {
            names.add(told.substring(0, told.indexOf('(')));
        }
        return names;
    }

    private static String toldAs(Method m) {
        List<String> types = new ArrayList<>();
        for (Class<?> type : m.getParameterTypes()) {
            types.add(type.getName());
        }
        return m.getName() + "(" + String.join(", ", types) + ")";
    }

    private static void words(String code) {
        for (String word : List.of("throw", "throws", "try", "catch", "finally", "synchronized", "assert", "package",
                "protected", "System.out", "Exact", "hashCode", "instanceof", "Random", "Thread", "currentTimeMillis",
                "nanoTime", "Object", "HashMap")) {
            CHECK.holds("without " + word, !Pattern.compile("\\b" + Pattern.quote(word) + "\\b").matcher(code).find());
        }
        for (String sign : List.of("->", "::", "@", "static {")) {
            CHECK.holds("without " + sign, !code.contains(sign));
        }
        Matcher imports = Pattern.compile("import ([^;]+);").matcher(code);
        while (imports.find()) {
            CHECK.holds(imports.group(1), imports.group(1).equals("java.util.Arrays"));
        }
        // Calls make nothing: what there is has been made with the object.
        Matcher made = Pattern.compile("\n( *)([^\n]*)\\bnew (\\w+)").matcher(code);
        while (made.find()) {
            String line = made.group(2);
            boolean field = line.startsWith("final ") || line.startsWith("private final ");
            boolean inConstructor = line.matches("sheets\\[i\\] = |Rows rows = |walks = |plays = |harm = ");
            CHECK.holds("made by a constructor alone: " + line, field || inConstructor);
        }
    }

    private static void sizes(String source) {
        List<String> lines = List.of(source.split("\n"));
        List<Integer> starts = new ArrayList<>();
        for (int i = 0; i < lines.size(); i++) {
            String line = lines.get(i);
            CHECK.holds("line " + (i + 1) + " is short", line.length() <= 120);
            boolean opens = line.matches(" {4}(?: {4})?[\\w<>\\[\\] ]+\\(.*\\) \\{");
            if (opens) {
                starts.add(i);
            }
            if (!starts.isEmpty() && (line.equals("    }") || line.equals("        }"))) {
                int start = starts.remove(starts.size() - 1);
                CHECK.holds("method at line " + (start + 1) + " is short", i - start < 60);
            }
        }
    }

    private static void rows() throws Exception {
        Set<Object> seen = new HashSet<>();
        long elements = elementsOf(new HandBook(), seen);
        System.out.println("an object has " + elements + " fields and elements in " + seen.size() + " objects and arrays");
        CHECK.holds("a room of 7.3 million has place for many", elements < 100_000);
    }

    private static long elementsOf(Object o, Set<Object> seen) throws Exception {
        if (o == null || !seen.add(o)) {
            return 0;
        }
        if (o.getClass().isArray()) {
            int n = java.lang.reflect.Array.getLength(o);
            long sum = n;
            for (int i = 0; i < n && !o.getClass().getComponentType().isPrimitive(); i++) {
                sum += elementsOf(java.lang.reflect.Array.get(o, i), seen);
            }
            return sum;
        }
        long sum = 0;
        for (Field f : o.getClass().getDeclaredFields()) {
            if (!Modifier.isStatic(f.getModifiers())) {
                f.setAccessible(true);
                sum++;
                sum += f.getType().isPrimitive() ? 0 : elementsOf(f.get(o), seen);
            }
        }
        return sum;
    }
}
