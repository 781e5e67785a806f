import java.io.IOException;
import java.lang.reflect.Method;
import java.nio.file.Files;
import java.nio.file.Path;
import java.util.regex.Matcher;
import java.util.regex.Pattern;

/** Makes the calls that README.md shows, and holds their answers against what stands behind them. */
public final class ReadmeTest {
    private static final Pattern CALL = Pattern.compile("house\\.(\\w+)\\(([^)]*)\\);\\s*// (-?\\w+)(:.*)?");

    public static void main(String[] args) throws IOException, ReflectiveOperationException {
        LitmusHouse house = new LitmusHouse();
        StringBuilder shown = new StringBuilder();
        for (String line : Files.readAllLines(Path.of("README.md"))) {
            if (line.startsWith("house.")) {
                Matcher call = CALL.matcher(line);
                House.due("an answer behind " + line, call.matches(), true);
                House.due(line, "" + made(house, call.group(1), call.group(2)), call.group(3));
                shown.append(' ').append(call.group(1)).append(' ');
            }
        }
        for (Method method : LitmusHouse.class.getDeclaredMethods()) {
            if (java.lang.reflect.Modifier.isPublic(method.getModifiers())) {
                House.due("README.md shows " + method.getName(), shown.indexOf(" " + method.getName() + " ") >= 0, true);
            }
        }
        House.close("readme");
    }

    private static Object made(LitmusHouse house, String name, String numbers) throws ReflectiveOperationException {
        String[] parts = numbers.isEmpty() ? new String[0] : numbers.split(", ");
        Class<?>[] types = new Class<?>[parts.length];
        Object[] values = new Object[parts.length];
        for (int i = 0; i < parts.length; i++) {
            types[i] = int.class;
            values[i] = Integer.decode(parts[i]);
        }
        return LitmusHouse.class.getMethod(name, types).invoke(house, values);
    }
}
