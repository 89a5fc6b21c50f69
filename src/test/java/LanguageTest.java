import java.io.IOException;
import java.lang.reflect.Constructor;
import java.lang.reflect.Field;
import java.lang.reflect.Method;
import java.lang.reflect.Modifier;
import java.nio.file.Files;
import java.nio.file.Path;
import java.util.ArrayList;
import java.util.List;
import java.util.Set;
import java.util.TreeSet;
import java.util.regex.Matcher;
import java.util.regex.Pattern;

/** What can be seen of LANGUAGE.md's rules in the source and in the compiled class. */
public final class LanguageTest {
    private static final Path SOURCE = Path.of("src/main/java/IceOfApplause.java");
    private static final Check C = new Check();

    public static void main(String[] args) throws IOException {
        String source = Files.readString(SOURCE);
        String code = withoutComments(source);
        forbiddenWords(code);
        library(code);
        sizes(source, code);
        face();
        C.end();
    }

    private static String withoutComments(String source) {
        return source.replaceAll("(?s)/\\*.*?\\*/", "").replaceAll("//[^\n]*", "");
    }

    private static void forbiddenWords(String code) {
        C.promise(0, "rules 2, 6, 13");
        for (String word : new String[] {"throw", "throws", "try", "catch", "finally", "synchronized", "assert", "package",
            "protected", "volatile", "native", "toString", "hashCode", "Exact"}) {
            C.holds("no " + word, !Pattern.compile("\\b" + word + "\\b").matcher(code).find());
        }
        C.holds("no lambda", !code.contains("->"));
        C.holds("no method reference", !code.contains("::"));
        C.holds("no other import", code.replace("import java.util.Arrays;", "").indexOf("import ") < 0);
        C.holds("signs 1 to 127", code.chars().allMatch(c -> c < 128));
        C.holds("no joining of texts", !code.contains("\" +") && !code.contains("+ \""));
    }

    private static void library(String code) {
        C.promise(0, "rule 4");
        Set<String> used = new TreeSet<>();
        Matcher m = Pattern.compile("\\b(Math|Arrays|System|Integer|Long|String|Character|Object)\\.\\w+").matcher(code);
        while (m.find()) {
            used.add(m.group());
        }
        used.removeAll(Set.of("Math.max", "Math.min", "Math.abs", "Arrays.fill", "System.arraycopy"));
        C.holds("only what stands there, not " + used, used.isEmpty());
    }

    private static void sizes(String source, String code) {
        C.promise(0, "rule 11");
        int classes = 0;
        for (Matcher m = Pattern.compile("\\bclass \\w+").matcher(code); m.find();) {
            classes++;
        }
        C.holds("twelve classes at most, not " + classes, classes <= 12);
        int began = -1;
        String[] lines = source.split("\n");
        for (int k = 0; k < lines.length; k++) {
            boolean begins = lines[k].matches("    (    )?\\S.*\\) \\{") && !lines[k].trim().matches("(for|if|while).*");
            if (begins) {
                began = k;
                int parameters = lines[k].contains("()") ? 0 : lines[k].split(",").length;
                C.holds("seven parameters at most: " + lines[k].trim(), parameters <= 7);
            } else if (lines[k].matches("    (    )?\\}") && began >= 0) {
                C.holds("sixty lines at most: " + lines[began].trim(), k - began <= 60);
                began = -1;
            }
            C.holds("no line above 120 signs: " + (k + 1), lines[k].length() <= 120);
        }
    }

    private static void face() {
        C.promise(0, "rules 1, 5, 11");
        Class<?> face = IceOfApplause.class;
        C.holds("public and final", face.getModifiers() == (Modifier.PUBLIC | Modifier.FINAL));
        Set<String> names = new TreeSet<>();
        int publics = 0;
        for (Method m : face.getDeclaredMethods()) {
            if (Modifier.isPublic(m.getModifiers())) {
                names.add(m.getName());
                publics++;
            } else {
                C.holds(m + " is private", Modifier.isPrivate(m.getModifiers()));
            }
        }
        C.due("public methods", publics, 45);
        for (Constructor<?> c : face.getDeclaredConstructors()) {
            C.holds("one constructor, public", c.getModifiers() == Modifier.PUBLIC && c.getParameterCount() == 0);
        }
        List<Class<?>> all = new ArrayList<>(List.of(face.getDeclaredClasses()));
        for (Class<?> inside : all) {
            C.holds(inside + " is static", Modifier.isStatic(inside.getModifiers()));
            for (Method m : inside.getDeclaredMethods()) {
                C.holds(m + " has a name of its own", !names.contains(m.getName()));
            }
        }
        all.add(face);
        for (Class<?> one : all) {
            int own = 0;
            for (Field f : one.getDeclaredFields()) {
                boolean isStatic = Modifier.isStatic(f.getModifiers());
                own += isStatic ? 0 : 1;
                C.holds(f + " is final, if static", !isStatic || Modifier.isFinal(f.getModifiers()));
            }
            C.holds(one + " has twenty fields at most", own <= 20);
        }
    }
}
