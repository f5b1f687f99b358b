import java.lang.reflect.Method;
import java.nio.file.Files;
import java.nio.file.Path;
import java.util.regex.Matcher;
import java.util.regex.Pattern;

/** The calls that README.md shows answer, one behind the other on one object, what it tells behind them. */
public final class ReadmeTest {
    private static final Check C = new Check();
    private static final Pattern CALL = Pattern.compile("^house\\.(\\w+)\\((.*)\\); +// (-?\\d+): .*$");

    public static void main(String[] args) throws Exception {
        TickerHouse house = new TickerHouse();
        int shown = 0;
        for (String row : Files.readAllLines(Path.of(System.getProperty("project", "."), "README.md"))) {
            Matcher call = CALL.matcher(row);
            if (call.matches()) {
                C.due(row, answer(house, call.group(1), call.group(2)), Long.parseLong(call.group(3)));
                shown++;
            } else {
                C.holds("a call without its answer: " + row, !row.startsWith("house."));
            }
        }
        C.holds("the calls are found", shown >= 30);
        C.end();
    }

    private static long answer(TickerHouse house, String name, String numbers) throws Exception {
        String[] given = numbers.isEmpty() ? new String[0] : numbers.split(", ");
        Object[] values = new Object[given.length];
        for (int i = 0; i < given.length; i++) {
            values[i] = Integer.valueOf(given[i]);
        }
        for (Method method : TickerHouse.class.getMethods()) {
            if (method.getName().equals(name)) {
                return ((Number) method.invoke(house, values)).longValue();
            }
        }
        throw new IllegalArgumentException(name);
    }
}
