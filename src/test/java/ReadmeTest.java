import java.io.IOException;
import java.lang.reflect.InvocationTargetException;
import java.lang.reflect.Method;
import java.nio.file.Files;
import java.nio.file.Path;
import java.util.regex.Matcher;
import java.util.regex.Pattern;

/** The example of README.md, call by call: each answers what the comment behind it begins with. */
public final class ReadmeTest {
    private static final Pattern CALL = Pattern.compile("x\\.(\\w+)\\(([^)]*)\\);\\s*// (-?\\w+).*");

    public static void main(String[] args) throws IOException, ReflectiveOperationException {
        FourPalms x = new FourPalms();
        boolean example = false;
        int calls = 0;
        int wrong = 0;
        for (String line : Files.readAllLines(Path.of("README.md"))) {
            if (line.startsWith("```")) {
                example = line.equals("```java");
                continue;
            }
            if (!example || !line.startsWith("x.")) {
                continue;
            }
            calls++;
            Matcher call = CALL.matcher(line);
            String got = call.matches() ? answer(x, call.group(1), call.group(2).split(", ")) : "no call with its answer";
            if (!call.matches() || !got.equals(call.group(3))) {
                wrong++;
                System.out.println(line + " answered " + got);
            }
        }
        System.out.println(calls + " calls of the example, " + wrong + " of them wrong");
        if (wrong != 0 || calls < 10) {
            System.exit(1);
        }
    }

    private static String answer(FourPalms x, String name, String[] told)
            throws IllegalAccessException, InvocationTargetException {
        for (Method m : FourPalms.class.getDeclaredMethods()) {
            if (m.getName().equals(name) && m.getParameterCount() == told.length) {
                Object[] numbers = new Object[told.length];
                for (int i = 0; i < told.length; i++) {
                    boolean yesOrNo = m.getParameterTypes()[i] == boolean.class;
                    numbers[i] = yesOrNo ? (Object) Boolean.valueOf(told[i]) : (Object) Integer.valueOf(told[i]);
                }
                return String.valueOf(m.invoke(x, numbers));
            }
        }
        return "no such call";
    }
}
