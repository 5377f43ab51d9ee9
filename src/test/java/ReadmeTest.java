import java.io.ByteArrayOutputStream;
import java.io.IOException;
import java.io.PrintStream;
import java.lang.reflect.Method;
import java.lang.reflect.Modifier;
import java.net.URL;
import java.net.URLClassLoader;
import java.nio.file.Files;
import java.nio.file.Path;
import java.util.Set;
import java.util.TreeSet;
import java.util.regex.Matcher;
import java.util.regex.Pattern;
import java.util.stream.Stream;
import javax.tools.ToolProvider;

/** README.md: its example prints what it says, it names every call and every test, and its commands are there. */
public final class ReadmeTest {
    public static void main(String[] args) throws Exception {
        String text = Files.readString(Path.of("README.md"));
        example(text);
        calls(text);
        tests(text);
        commands(text);
        Check.end();
    }

    private static void example(String text) throws Exception {
        Path room = Files.createTempDirectory("readme");
        Path source = room.resolve("Example.java");
        Files.writeString(source, part(text, "java"));
        int compiled = ToolProvider.getSystemJavaCompiler().run(null, null, null,
            "-cp", System.getProperty("java.class.path"), "-d", room.toString(), source.toString());
        Check.due("the example compiles", compiled, 0);
        if (compiled == 0) {
            String printed = printedBy(room);
            Check.due("the example prints:\n" + printed, printed.equals(part(text, "text")), true);
        }
        try (Stream<Path> files = Files.list(room)) {
            for (Path file : files.toList()) {
                Files.delete(file);
            }
        }
        Files.delete(room);
    }

    private static String part(String text, String language) {
        Matcher m = Pattern.compile("(?s)```" + language + "\n(.*?)```").matcher(text);
        boolean found = m.find();
        Check.due("a part of " + language, found, true);
        return found ? m.group(1) : "";
    }

    private static String printedBy(Path room) throws Exception {
        PrintStream usual = System.out;
        ByteArrayOutputStream printed = new ByteArrayOutputStream();
        try (URLClassLoader loader = new URLClassLoader(new URL[] {room.toUri().toURL()})) {
            System.setOut(new PrintStream(printed, true));
            loader.loadClass("Example").getMethod("main", String[].class).invoke(null, (Object) new String[0]);
        } finally {
            System.setOut(usual);
        }
        return printed.toString().replace(System.lineSeparator(), "\n");
    }

    private static void calls(String text) {
        for (Method m : WavePictures.class.getDeclaredMethods()) {
            if (Modifier.isPublic(m.getModifiers())) {
                Check.due(m.getName() + " is told of", text.contains("`" + m.getName() + "`"), true);
            }
        }
    }

    private static void tests(String text) throws IOException {
        Set<String> there = new TreeSet<>();
        try (Stream<Path> files = Files.list(Path.of("src/test/java"))) {
            for (Path file : files.toList()) {
                String name = file.getFileName().toString();
                if (name.endsWith("Test.java")) {
                    there.add(name.replace(".java", ""));
                }
            }
        }
        Set<String> told = new TreeSet<>();
        Matcher m = Pattern.compile("(?m)^\\|.*\\|$").matcher(text);
        while (m.find()) {
            Matcher name = Pattern.compile("`(\\w+Test)`").matcher(m.group());
            while (name.find()) {
                told.add(name.group(1));
            }
        }
        Check.due("the tests that are told of, " + told + ", are those that there are, " + there, told.equals(there), true);
    }

    private static void commands(String text) throws IOException {
        Check.due(".ci/run can be run", Files.isExecutable(Path.of(".ci/run")), true);
        Matcher m = Pattern.compile("(?m)^    (\\S.*)$").matcher(text.replaceAll("(?s)```.*?```", ""));
        int found = 0;
        while (m.find()) {
            found++;
            for (String word : m.group(1).split(" ")) {
                boolean path = word.startsWith("src/") || word.startsWith(".ci/");
                Check.due(word + " is there", !path || Files.exists(Path.of(word.replace("/*.java", ""))), true);
            }
            Matcher test = Pattern.compile("java -cp out (\\w+Test).*").matcher(m.group(1));
            Check.due(m.group(1), !test.matches() || Files.exists(Path.of("src/test/java", test.group(1) + ".java")), true);
        }
        Check.due("there are commands", found >= 5, true);
    }
}
