import java.io.IOException;
import java.lang.reflect.Method;
import java.lang.reflect.Modifier;
import java.nio.file.Files;
import java.nio.file.Path;
import java.util.regex.Matcher;
import java.util.regex.Pattern;

/** README.md's examples answer what their comments say, and every call of the class stands there. */
public final class ReadmeTest {
    private static final Check C = new Check();
    private static final Pattern CALL = Pattern.compile("x\\.(\\w+)\\(([^)]*)\\); +// (-?\\d+): .*");
    private static final Pattern LAW = Pattern.compile("for \\(char c : \"(.*)\"\\.toCharArray\\(\\)\\) x\\.feed\\(c\\);");

    public static void main(String[] args) throws IOException, ReflectiveOperationException {
        String readme = Files.readString(Path.of("README.md"));
        examples(readme);
        everyCall(readme);
        C.end();
    }

    private static void examples(String readme) throws ReflectiveOperationException {
        IceOfApplause x = new IceOfApplause();
        boolean inJava = false;
        int calls = 0;
        for (String line : readme.split("\n")) {
            Matcher call = CALL.matcher(line);
            Matcher law = LAW.matcher(line);
            if (line.startsWith("```")) {
                inJava = line.equals("```java");
            } else if (inJava && call.matches()) {
                C.due(line, answer(x, call.group(1), call.group(2)), Long.parseLong(call.group(3)));
                calls++;
            } else if (inJava && law.matches()) {
                for (char c : law.group(1).toCharArray()) {
                    x.feed(c);
                }
            } else if (inJava) {
                C.holds("a line that is looked at: " + line, line.isEmpty() || line.startsWith("IceOfApplause x = new"));
            }
        }
        C.holds("examples are found, not " + calls, calls >= 20);
    }

    private static long answer(IceOfApplause x, String name, String numbers) throws ReflectiveOperationException {
        String[] told = numbers.isEmpty() ? new String[0] : numbers.split(", ");
        Method method = method(name);
        Object[] given = new Object[told.length];
        for (int k = 0; k < told.length; k++) {
            boolean isLong = method.getParameterTypes()[k] == long.class;
            given[k] = isLong ? (Object) Long.valueOf(told[k]) : (Object) Integer.valueOf(told[k]);
        }
        return ((Number) method.invoke(x, given)).longValue();
    }

    private static Method method(String name) throws NoSuchMethodException {
        for (Method m : IceOfApplause.class.getDeclaredMethods()) {
            if (m.getName().equals(name) && Modifier.isPublic(m.getModifiers())) {
                return m;
            }
        }
        throw new NoSuchMethodException(name);
    }

    private static void everyCall(String readme) {
        for (Method m : IceOfApplause.class.getDeclaredMethods()) {
            if (Modifier.isPublic(m.getModifiers())) {
                Matcher told = Pattern.compile("`" + m.getName() + "\\(([^)]*)\\)`").matcher(readme);
                int numbers = -1;
                if (told.find()) {
                    numbers = told.group(1).isEmpty() ? 0 : told.group(1).split(", ").length;
                }
                C.due("numbers of " + m.getName() + " on the page", numbers, m.getParameterCount());
            }
        }
    }
}
