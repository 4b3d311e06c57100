import java.net.URL;
import java.net.URLClassLoader;
import java.nio.file.Files;
import java.nio.file.Path;
import java.util.ArrayList;
import java.util.List;
import java.util.regex.Matcher;
import java.util.regex.Pattern;
import javax.tools.JavaCompiler;
import javax.tools.ToolProvider;

/** What README.md shows as an example is what the class answers: its code is compiled and run. */
public final class ReadmeTest {
    private static final Check CHECK = new Check();
    private static final Pattern SHOWN = Pattern.compile("((?:book|pair)\\.\\w+\\(.*?\\)); +// (-?\\d+): .+");
    private static final List<String> CALLS = new ArrayList<>();
    private static final List<Integer> DUE = new ArrayList<>();

    public static void main(String[] args) throws Exception {
        String source = asClass(Files.readAllLines(Path.of("README.md")));
        int[] answers = run(source);
        CHECK.is("answers", answers.length, DUE.size());
        for (int i = 0; i < answers.length && i < DUE.size(); i++) {
            CHECK.is("README.md: " + CALLS.get(i), answers[i], DUE.get(i));
        }
        allIsShown();
        CHECK.end("ReadmeTest");
    }

    /** Helpers stay methods, all other examples become one method that hands back the answers. */
    private static String asClass(List<String> page) {
        StringBuilder helpers = new StringBuilder();
        StringBuilder body = new StringBuilder();
        StringBuilder block = null;
        for (String line : page) {
            if (line.equals("```java")) {
                block = new StringBuilder();
            } else if (line.equals("```") && block != null) {
                (block.indexOf("static ") == 0 ? helpers : body).append(block);
                block = null;
            } else if (block != null) {
                block.append(withAnswerKept(line)).append('\n');
            }
        }
        return "public final class Shown {\n" + helpers + "public static int[] answers() {\nint[] got = new int["
            + DUE.size() + "];\n" + body + "return got;\n}\n}\n";
    }

    private static String withAnswerKept(String line) {
        Matcher shown = SHOWN.matcher(line);
        if (!shown.matches()) {
            CHECK.holds("README.md shows no answer to: " + line, !line.matches("(book|pair)\\..*"));
            return line;
        }
        CALLS.add(shown.group(1));
        DUE.add(Integer.parseInt(shown.group(2)));
        return "got[" + (DUE.size() - 1) + "] = " + shown.group(1) + ";";
    }

    private static int[] run(String source) throws Exception {
        Path folder = Files.createTempDirectory("readme");
        Path file = folder.resolve("Shown.java");
        Path compiled = folder.resolve("Shown.class");
        try {
            Files.writeString(file, source);
            JavaCompiler compiler = ToolProvider.getSystemJavaCompiler();
            int failed = compiler.run(null, null, null, "-cp", System.getProperty("java.class.path"),
                "-d", folder.toString(), file.toString());
            CHECK.is("javac of the examples", failed, 0);
            if (failed != 0) {
                return new int[0];
            }
            try (URLClassLoader loader = new URLClassLoader(new URL[] {folder.toUri().toURL()})) {
                return (int[]) loader.loadClass("Shown").getMethod("answers").invoke(null);
            }
        } finally {
            Files.deleteIfExists(compiled);
            Files.deleteIfExists(file);
            Files.deleteIfExists(folder);
        }
    }

    /** The page shows each sort of answer: a number, NONE, BAD, FULL, every finding, a fault. */
    private static void allIsShown() {
        for (int answer : new int[] {-1000000, -1000001, -1000003, -1000011, -1000012, -1000013, -1000014, -1000015}) {
            CHECK.holds("README.md shows " + answer, DUE.contains(answer));
        }
        CHECK.holds("README.md shows a fault", DUE.stream().anyMatch(answer -> answer <= -1000100));
        CHECK.holds("README.md shows a number", DUE.stream().anyMatch(answer -> answer > 0));
    }
}
