import java.io.IOException;
import java.lang.reflect.Method;
import java.nio.file.Files;
import java.nio.file.Path;
import java.util.regex.Matcher;
import java.util.regex.Pattern;

/** The calls that README.md shows answer what stands behind them there. */
public final class ReadmeTest {
    private static final Pattern TEXT = Pattern.compile("tell\\(house, (\\d), \"(.*)\"\\); *// (-?\\d+).*");
    private static final Pattern CALL = Pattern.compile("house\\.(\\w+)\\((.*)\\); *// (-?\\d+|true|false).*");

    public static void main(String[] args) throws IOException, ReflectiveOperationException {
        Check check = new Check();
        BreweryHouse house = new BreweryHouse();
        int calls = 0;
        for (String line : Files.readAllLines(Path.of("README.md"))) {
            Matcher text = TEXT.matcher(line);
            Matcher call = CALL.matcher(line);
            if (text.matches()) {
                String told = text.group(2).replace("\\n", "\n");
                check.due(line, Check.read(house, Integer.parseInt(text.group(1)), told), Long.parseLong(text.group(3)));
                calls++;
            } else if (call.matches()) {
                check.due(line + " which", "" + answer(house, call.group(1), call.group(2)), call.group(3));
                calls++;
            }
        }
        check.due("calls that README.md shows", calls, 24);
        check.done();
    }

    private static Object answer(BreweryHouse house, String name, String list) throws ReflectiveOperationException {
        for (Method method : BreweryHouse.class.getMethods()) {
            if (method.getName().equals(name)) {
                String[] told = list.isEmpty() ? new String[0] : list.split(", ");
                Object[] values = new Object[told.length];
                for (int i = 0; i < told.length; i++) {
                    boolean wide = method.getParameterTypes()[i] == long.class;
                    values[i] = wide ? (Object) Long.valueOf(told[i]) : (Object) Integer.valueOf(told[i]);
                }
                return method.invoke(house, values);
            }
        }
        return "no such call";
    }
}
