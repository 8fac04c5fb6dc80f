import java.io.IOException;
import java.lang.reflect.InvocationTargetException;
import java.lang.reflect.Method;
import java.lang.reflect.Modifier;
import java.nio.file.Files;
import java.nio.file.Path;
import java.util.regex.Matcher;
import java.util.regex.Pattern;

/** The calls that README.md shows answer as it tells, and it names each call of the face. */
public final class ReadmeTest {
    private static final Due DUE = new Due();
    private static final Pattern CALL = Pattern.compile("x\\.(\\w+)\\((.*?)\\); +// (-?\\w+): .*");

    public static void main(String[] args) throws IOException, ReflectiveOperationException {
        String readme = Files.readString(Path.of("README.md"));
        Matcher block = Pattern.compile("(?s)```java\n(.*?)```").matcher(readme);
        DUE.holds("README.md has a block of calls", block.find());
        String calls = block.group(1);
        callAll(calls);
        for (Method method : WordMachines.class.getDeclaredMethods()) {
            if (Modifier.isPublic(method.getModifiers())) {
                DUE.holds(method.getName() + " is called", calls.contains("x." + method.getName() + "("));
                DUE.holds(method.getName() + " is explained", readme.contains("| `" + method.getName() + "("));
            }
        }
        DUE.end("ReadmeTest");
    }

    private static void callAll(String calls) throws ReflectiveOperationException {
        WordMachines x = new WordMachines();
        String[] lines = calls.split("\n");
        DUE.is("the first line", lines[0], "WordMachines x = new WordMachines();");
        for (int i = 1; i < lines.length; i++) {
            Matcher call = CALL.matcher(lines[i]);
            DUE.holds("a call and its answer: " + lines[i], call.matches());
            if (call.matches()) {
                DUE.is(lines[i], String.valueOf(answer(x, call.group(1), call.group(2).split(", "))), call.group(3));
            }
        }
    }

    private static Object answer(WordMachines x, String name, String[] given)
            throws IllegalAccessException, InvocationTargetException, NoSuchMethodException {
        for (Method method : WordMachines.class.getDeclaredMethods()) {
            Class<?>[] types = method.getParameterTypes();
            if (method.getName().equals(name) && types.length == given.length) {
                Object[] values = new Object[given.length];
                for (int i = 0; i < given.length; i++) {
                    long value = Long.decode(given[i]);
                    values[i] = types[i] == long.class ? (Object) value : (Object) (int) value;
                }
                return method.invoke(x, values);
            }
        }
        throw new NoSuchMethodException(name);
    }
}
