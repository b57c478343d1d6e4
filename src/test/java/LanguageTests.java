import java.lang.reflect.Field;
import java.lang.reflect.Method;
import java.lang.reflect.Modifier;
import java.nio.file.Files;
import java.nio.file.Path;
import java.util.Arrays;
import java.util.Set;
import java.util.TreeSet;
import java.util.regex.Matcher;
import java.util.regex.Pattern;

/** What can be seen of ../shared/LANGUAGE.md in the program's text and in its compiled classes. */
public final class LanguageTests {
    private static final Set<String> FACE = new TreeSet<>(Arrays.asList(
        "tensor", "shaped", "free", "setting", "item", "bits", "index", "of", "act", "into", "one", "cast", "where", "copy", "same", "place", "count"));

    private LanguageTests() {
    }

    public static void main(String[] args) throws Exception {
        String text = Files.readString(Path.of("src/main/java/SpreadRules.java"));
        String code = text.replaceAll("(?s)/\\*.*?\\*/", "").replaceAll("//[^\n]*", "");
        words(code);
        library(code);
        methodLengths(code);
        face();
        nested();
        Due.end();
    }

    private static int found(String pattern, String code) {
        int n = 0;
        Matcher m = Pattern.compile(pattern).matcher(code);
        while (m.find()) {
            n++;
        }
        return n;
    }

    private static void words(String code) {
        String[] never = {"throw", "throws", "try", "catch", "synchronized", "assert", "import", "package", "double", "float", "Object", "yield", "volatile",
            "native", "equals", "hashCode", "toString", "instanceof"};
        for (String word : never) {
            Due.is("word " + word, found("\\b" + word + "\\b", code), 0);
        }
        Due.is("lambdas, method references", found("->|::", code), 0);
        Due.is("static blocks", found("static\\s*\\{", code), 0);
    }

    private static void library(String code) {
        Matcher m = Pattern.compile("\\b(Math|System|Integer|Long|Arrays)\\.(\\w+)").matcher(code);
        Set<String> allowed = new TreeSet<>(Arrays.asList("Math.max", "Math.min", "Math.abs", "Math.floorDiv", "Math.floorMod", "System.arraycopy",
            "Integer.MIN_VALUE", "Integer.MAX_VALUE", "Long.MIN_VALUE", "Long.MAX_VALUE"));
        while (m.find()) {
            Due.is(m.group(), allowed.contains(m.group()) ? 1 : 0, 1);
        }
    }

    /** From a method's first line to the brace that closes it, as this file is indented. */
    private static void methodLengths(String code) {
        String[] lines = code.split("\n");
        int start = -1;
        String indent = "";
        for (int n = 0; n < lines.length; n++) {
            Matcher m = Pattern.compile("^( {4}| {8})(?! )[\\w\\[\\] ]+\\(([^)]*)\\) \\{$").matcher(lines[n]);
            if (start < 0 && m.find() && !lines[n].contains("class ")) {
                start = n;
                indent = m.group(1);
                Due.is("at most seven parameters: " + lines[n], m.group(2).split(",").length <= 7 ? 1 : 0, 1);
            } else if (start >= 0 && lines[n].equals(indent + "}")) {
                Due.is("at most sixty lines: " + lines[start], n - start < 60 ? 1 : 0, 1);
                start = -1;
            }
        }
    }

    private static void face() {
        Set<String> seen = new TreeSet<>();
        for (Method m : SpreadRules.class.getDeclaredMethods()) {
            if (Modifier.isPrivate(m.getModifiers())) {
                Due.is("private method " + m.getName(), FACE.contains(m.getName()) ? 1 : 0, 0);
            } else {
                Due.is("public method " + m, Modifier.isPublic(m.getModifiers()) ? 1 : 0, 1);
                seen.add(m.getName());
            }
        }
        Due.is("the face: " + seen, seen.equals(FACE) ? 1 : 0, 1);
        Due.is("final", Modifier.isFinal(SpreadRules.class.getModifiers()) ? 1 : 0, 1);
        Due.is("constructors", SpreadRules.class.getDeclaredConstructors().length, 1);
        for (Field f : SpreadRules.class.getDeclaredFields()) {
            boolean constant = Arrays.asList("BAD", "FULL", "NONE").contains(f.getName());
            Due.is("field " + f, Modifier.isPublic(f.getModifiers()) ? 1 : 0, constant ? 1 : 0);
            Due.is("field " + f, Modifier.isPrivate(f.getModifiers()) ? 1 : 0, constant ? 0 : 1);
        }
    }

    private static void nested() {
        Class<?>[] classes = SpreadRules.class.getDeclaredClasses();
        Due.is("at most twelve classes", classes.length < 12 ? 1 : 0, 1);
        for (Class<?> c : classes) {
            Due.is("static " + c, Modifier.isStatic(c.getModifiers()) ? 1 : 0, 1);
            for (Field f : c.getDeclaredFields()) {
                Due.is("static fields are final: " + f, Modifier.isStatic(f.getModifiers()) && !Modifier.isFinal(f.getModifiers()) ? 1 : 0, 0);
            }
            for (Method m : c.getDeclaredMethods()) {
                Due.is("no name of the face: " + m, FACE.contains(m.getName()) ? 1 : 0, 0);
            }
        }
    }
}
