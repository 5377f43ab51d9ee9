import java.lang.reflect.Field;
import java.lang.reflect.Method;
import java.lang.reflect.Modifier;
import java.io.IOException;
import java.nio.file.Files;
import java.nio.file.Path;
import java.util.Set;
import java.util.TreeSet;
import java.util.regex.Matcher;
import java.util.regex.Pattern;

/** The rules of LANGUAGE.md that can be seen in the source or in the class: the face, words, sizes. */
public final class LanguageTest {
    public static void main(String[] args) throws IOException {
        face();
        String told = System.getenv("WAVE_SOURCE");
        Path source = Path.of(told == null ? "src/main/java/WavePictures.java" : told);
        String text = Files.readString(source).replaceAll("(?s)/\\*.*?\\*/", "").replaceAll("//[^\n]*", "");
        words(text);
        methods(text);
        Check.end();
    }

    private static void face() {
        Set<String> names = new TreeSet<>();
        for (Method m : WavePictures.class.getDeclaredMethods()) {
            if (Modifier.isPrivate(m.getModifiers())) {
                continue;
            }
            Check.due(m + " is public", Modifier.isPublic(m.getModifiers()), true);
            names.add(m.getName());
        }
        String due = "[aboutPicture, canvasEight, canvasRow, canvasSize, coefficientAt, cropTo, giveInput, mixCanvas, "
            + "openInput, outputAt, paintFrom, saveAs, setCoefficient, showAt, statusOf, stepAt, takeOutput, turnBy, "
            + "wipeInput]";
        Check.due("the methods are " + names, names.toString().equals(due), true);
        for (Method m : WavePictures.class.getDeclaredMethods()) {
            Check.due(m + " bears no public name", Modifier.isPublic(m.getModifiers()) || !names.contains(m.getName()), true);
        }
        for (Field f : WavePictures.class.getDeclaredFields()) {
            boolean constant = f.getName().equals("NONE");
            Check.due(f + " is private", Modifier.isPrivate(f.getModifiers()), !constant);
        }
        noLambdas(WavePictures.class);
        Check.due("fields", ownFields(WavePictures.class) <= 24, true);
        Class<?>[] inside = WavePictures.class.getDeclaredClasses();
        Check.due("classes", inside.length <= 13, true);
        for (Class<?> c : inside) {
            Check.due(c + " is static", Modifier.isStatic(c.getModifiers()), true);
            noLambdas(c);
            Check.due(c + " has few fields", ownFields(c) <= 24, true);
        }
    }

    private static void noLambdas(Class<?> c) {
        for (Method m : c.getDeclaredMethods()) {
            Check.due(m + " is a lambda", m.getName().startsWith("lambda$"), false);
        }
    }

    private static int ownFields(Class<?> c) {
        int count = 0;
        for (Field f : c.getDeclaredFields()) {
            count += Modifier.isStatic(f.getModifiers()) ? 0 : 1;
        }
        return count;
    }

    private static void words(String text) {
        String[] never = {"throw", "throws", "try", "catch", "finally", "synchronized", "assert", "protected", "package",
            "new Thread", "System.out", "System.nanoTime", "Exact\\(", "::", "hashCode", "Random", "static \\{",
            "int\\[\\]\\[\\]\\["};
        for (String word : never) {
            String pattern = Character.isLetter(word.charAt(0)) ? "\\b" + word : word;
            Check.due("'" + word + "' stands in the source", Pattern.compile(pattern).matcher(text).find(), false);
        }
        Matcher imports = Pattern.compile("import ([^;]*);").matcher(text);
        while (imports.find()) {
            Check.due("import " + imports.group(1),
                imports.group(1).matches("java\\.util\\.(Arrays|ArrayList|List|Iterator)"), true);
        }
    }

    /** No method has more than seven parameters, or more than some sixty lines. */
    private static void methods(String text) {
        String[] lines = text.split("\n");
        Pattern head = Pattern.compile("^( {4}| {8})(?:(?:public|private|static|final) )*(?:[\\w\\[\\]]+ )?(\\w+)\\(([^)]*)\\) \\{$");
        int found = 0;
        for (int k = 0; k < lines.length; k++) {
            Matcher m = head.matcher(lines[k]);
            if (!m.find()) {
                continue;
            }
            found++;
            int end = k;
            while (end < lines.length && !lines[end].equals(m.group(1) + "}")) {
                end++;
            }
            Check.due(m.group(2) + " is short", end - k <= 66, true);
            int parameters = m.group(3).isEmpty() ? 0 : m.group(3).split(",").length;
            Check.due(m.group(2) + " has few parameters", parameters <= 7, true);
        }
        Check.due("methods were found", found >= 20, true);
    }
}
