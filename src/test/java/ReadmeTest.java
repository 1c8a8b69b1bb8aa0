import java.io.IOException;
import java.lang.reflect.Field;
import java.lang.reflect.Method;
import java.lang.reflect.Modifier;
import java.nio.file.Files;
import java.nio.file.Path;
import java.util.regex.Matcher;
import java.util.regex.Pattern;

/** What README.md says of the class: the lines of Java with their answers, each call, and each error. */
public final class ReadmeTest {
    private static final Pattern CALL = Pattern.compile("x\\.(\\w+)\\((.*?)\\); +// ([\\w.-]+): .*");

    private static final Due DUE = new Due();

    public static void main(String[] args) throws ReflectiveOperationException, IOException {
        String readme = Files.readString(Path.of("README.md"));
        answersInExample(readme);
        namesEachCall(readme);
        namesEachError(readme);
        DUE.close("ReadmeTest");
    }

    private static void answersInExample(String readme) throws ReflectiveOperationException {
        OrderedClauses x = new OrderedClauses();
        int calls = 0;
        for (String line : readme.split("\n")) {
            if (line.startsWith("x.")) {
                Matcher call = CALL.matcher(line);
                DUE.holds("a call with its answer is " + line, call.matches());
                if (call.matches()) {
                    DUE.same(line, answer(x, call.group(1), call.group(2)), number(call.group(3)));
                    calls++;
                }
            }
        }
        DUE.holds("the example has calls", calls > 0);
    }

    private static long answer(OrderedClauses x, String name, String arguments) throws ReflectiveOperationException {
        String[] given = arguments.isEmpty() ? new String[0] : arguments.split(", ");
        Class<?>[] types = new Class<?>[given.length];
        Object[] numbers = new Object[given.length];
        for (int i = 0; i < given.length; i++) {
            types[i] = int.class;
            numbers[i] = (int) number(given[i]);
        }
        return ((Number) OrderedClauses.class.getMethod(name, types).invoke(x, numbers)).longValue();
    }

    /** A number, a character between quotes, or a constant of the class. */
    private static long number(String text) throws ReflectiveOperationException {
        if (text.startsWith("'")) {
            return text.charAt(1);
        }
        String constant = "OrderedClauses.";
        return text.startsWith(constant)
            ? OrderedClauses.class.getField(text.substring(constant.length())).getInt(null)
            : Long.parseLong(text);
    }

    private static void namesEachCall(String readme) {
        for (Method m : OrderedClauses.class.getDeclaredMethods()) {
            if (Modifier.isPublic(m.getModifiers())) {
                String parameters = "(int \\w+, ){" + m.getParameterCount() + "}";
                String row = "\\| `" + m.getReturnType() + " " + m.getName() + "\\((.*?)\\)` \\|";
                Matcher found = Pattern.compile(row).matcher(readme);
                boolean isTold = found.find();
                DUE.holds("README.md has a row for " + m.getName(), isTold);
                String told = isTold && !found.group(1).isEmpty() ? found.group(1) + ", " : "";
                DUE.holds("with its parameters, not " + told, told.matches(parameters));
            }
        }
    }

    private static void namesEachError(String readme) throws IllegalAccessException {
        for (Field f : OrderedClauses.class.getFields()) {
            String row = "| `" + f.getName() + "` | " + f.getInt(null) + " |";
            DUE.holds("README.md has the row " + row, readme.contains(row));
        }
    }
}
