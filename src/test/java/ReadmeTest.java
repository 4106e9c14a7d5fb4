import java.io.IOException;
import java.lang.reflect.InvocationTargetException;
import java.lang.reflect.Method;
import java.lang.reflect.Modifier;
import java.nio.file.Files;
import java.nio.file.Path;
import java.util.List;
import java.util.regex.Matcher;
import java.util.regex.Pattern;

/** README.md (of the directory -Dproject) is true: its calls answer what stands behind them, and no call is left out. */
public final class ReadmeTest {
    private static final Pattern CALL = Pattern.compile("hall\\.(\\w+)\\((.*)\\);\\s*// (-?\\d+|\\w+Exception)(:.*)?");
    private static int asked = 0;

    public static void main(String[] args) throws IOException {
        List<String> lines = Files.readAllLines(Path.of(System.getProperty("project", "."), "README.md"));
        runExamples(lines);
        Told.due("whether calls were found", asked > 20 ? 1 : 0, 1);
        nameEachCall(String.join("\n", lines));
        Told.end();
    }

    /** A block of text is told to a new hall; the calls of the blocks behind it are asked of that one. */
    private static void runExamples(List<String> lines) {
        FerryHall hall = new FerryHall();
        StringBuilder text = null;
        for (String line : lines) {
            if (line.equals("```text")) {
                text = new StringBuilder();
            } else if (line.equals("```") && text != null) {
                hall = Told.hall(text.toString());
                text = null;
            } else if (text != null) {
                text.append(line).append('\n');
            } else if (line.startsWith("hall.")) {
                ask(hall, line);
            }
        }
    }

    private static void ask(FerryHall hall, String line) {
        Matcher call = CALL.matcher(line);
        if (!call.matches()) {
            Told.due("whether this can be asked: " + line, 0, 1);
            return;
        }
        asked++;
        String got = answer(hall, call.group(1), call.group(2).split(", *"));
        if (!got.equals(call.group(3))) {
            Told.wrong++;
            System.out.println(line + " : it answered " + got);
        }
    }

    private static String answer(FerryHall hall, String name, String[] written) {
        for (Method method : FerryHall.class.getMethods()) {
            if (method.getName().equals(name) && method.getDeclaringClass() == FerryHall.class) {
                Class<?>[] types = method.getParameterTypes();
                Object[] values = new Object[types.length];
                for (int i = 0; i < types.length; i++) {
                    values[i] = types[i] == boolean.class ? (Object) Boolean.valueOf(written[i]) : (Object) number(written[i]);
                }
                return answer(hall, method, values);
            }
        }
        return "no such call";
    }

    private static int number(String written) {
        if (written.contains("<<")) {
            String[] both = written.split(" << ");
            return Integer.parseInt(both[0]) << Integer.parseInt(both[1]);
        }
        return Long.decode(written).intValue();
    }

    private static String answer(FerryHall hall, Method method, Object[] values) {
        try {
            return String.valueOf(method.invoke(hall, values));
        } catch (InvocationTargetException e) {
            return e.getCause().getClass().getSimpleName();
        } catch (IllegalAccessException e) {
            throw new IllegalStateException(e);
        }
    }

    private static void nameEachCall(String page) {
        for (Method method : FerryHall.class.getDeclaredMethods()) {
            if (Modifier.isPublic(method.getModifiers())) {
                Told.due("whether " + method.getName() + " is told", page.contains("`" + method.getName() + "(") ? 1 : 0, 1);
            }
        }
    }
}
