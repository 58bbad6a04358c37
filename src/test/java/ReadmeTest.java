import java.io.File;
import java.lang.reflect.Method;
import java.lang.reflect.Modifier;
import java.net.URL;
import java.net.URLClassLoader;
import java.nio.file.Files;
import java.nio.file.Path;
import java.util.List;
import java.util.regex.Matcher;
import java.util.regex.Pattern;
import javax.tools.JavaCompiler;
import javax.tools.ToolProvider;

/**
 * README.md, as somebody who has nothing else would use it: its pieces of Java are compiled as they stand, one behind the
 * other, and answer what is told behind them; no call, constant or test is left out.
 */
public final class ReadmeTest {
    private static final Pattern PIECE = Pattern.compile("(?ms)^```java\n(.*?)^```$");
    private static final Pattern ANSWER = Pattern.compile("^(x\\.\\w+\\(.*\\)); +// (-?\\d+|[A-Z]+)(:.*)?$");
    private static int wrong = 0;
    private static int calls = 0;

    private static void check(boolean fine, String what) {
        if (!fine) {
            wrong++;
            System.out.println(what);
        }
    }

    /** The lines of all pieces, those with an answer told behind them as calls of due(). */
    private static String linesOf(String readme) {
        StringBuilder lines = new StringBuilder();
        Matcher pieces = PIECE.matcher(readme);
        while (pieces.find()) {
            for (String line : pieces.group(1).split("\n")) {
                Matcher answer = ANSWER.matcher(line);
                check(!line.contains("//") || answer.matches(), "README.md: no answer can be read from: " + line);
                if (answer.matches()) {
                    String told = answer.group(2);
                    String want = Character.isLetter(told.charAt(0)) ? "NeverBelieved." + told : told;
                    lines.append("due(\"").append(answer.group(1)).append("\", ").append(answer.group(1)).append(", ").append(want).append(");\n");
                    calls++;
                } else {
                    lines.append(line).append('\n');
                }
            }
        }
        return lines.toString();
    }

    private static int run(String lines) throws Exception {
        Path place = Files.createTempDirectory(Files.createDirectories(Path.of("build")), "readme");
        Path source = place.resolve("Mine.java");
        Files.writeString(source, "public final class Mine {\n"
                + "static int wrong = 0;\n"
                + "static void due(String call, int got, int want) {\n"
                + "if (got != want) { wrong++; System.out.println(\"README.md: \" + call + \" answered \" + got + \", told is \" + want); }\n"
                + "}\n"
                + "public static int all() {\n" + lines + "return wrong;\n}\n}\n");
        JavaCompiler compiler = ToolProvider.getSystemJavaCompiler();
        int failed = compiler.run(null, null, null, "-d", place.toString(), source.toString(), "src/main/java/NeverBelieved.java");
        check(failed == 0, "README.md: its pieces of Java do not compile");
        int faults = 0;
        if (failed == 0) {
            try (URLClassLoader loader = new URLClassLoader(new URL[] {place.toUri().toURL()}, null)) {
                faults = (int) loader.loadClass("Mine").getMethod("all").invoke(null);
            }
        }
        for (File file : place.toFile().listFiles()) file.delete();
        place.toFile().delete();
        return faults;
    }

    private static void nothingLeftOut(String readme, String lines) throws Exception {
        for (Method m : NeverBelieved.class.getDeclaredMethods()) {
            if (Modifier.isPublic(m.getModifiers())) check(lines.contains("x." + m.getName() + "("), "README.md: no example of " + m.getName());
        }
        for (String constant : List.of("NONE", "UNKNOWN", "OUTSIDE", "NOT", "FULL")) {
            int number = NeverBelieved.class.getField(constant).getInt(null);
            check(readme.contains("| `" + constant + "` | " + number + " |") || readme.contains("`" + constant + "` (" + number + ")"),
                    "README.md: it does not tell that " + constant + " is " + number);
        }
        for (File test : new File("src/test/java").listFiles()) {
            check(readme.contains("`" + test.getName().replace(".java", "") + "`"), "README.md: it does not name " + test.getName());
        }
    }

    public static void main(String[] args) throws Exception {
        String readme = Files.readString(Path.of("README.md"));
        String lines = linesOf(readme);
        wrong += run(lines);
        nothingLeftOut(readme, lines);
        System.out.println(calls + " answers told in README.md, " + wrong + " faults");
        if (wrong != 0 || calls < 27) System.exit(1);
    }
}
