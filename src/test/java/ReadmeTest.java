import java.lang.reflect.Method;
import java.nio.file.Files;
import java.nio.file.Path;
import java.util.regex.Matcher;
import java.util.regex.Pattern;

/** The calls that README.md shows, one behind the other on one object, answer what it tells. */
public final class ReadmeTest extends Checks {
    private static final Pattern SHOWN = Pattern.compile("x\\.(\\w+)\\(([^)]*)\\);\\s*//.*answers (-?\\d+)");
    private static final int LEAST_CALLS = 20;

    public static void main(String[] args) throws Exception {
        FoamHead x = new FoamHead();
        Matcher shown = SHOWN.matcher(Files.readString(Path.of("README.md")));
        int calls = 0;
        while (shown.find()) {
            String call = shown.group(1) + "(" + shown.group(2) + ")";
            due(call, answer(x, shown.group(1), shown.group(2)), Long.parseLong(shown.group(3)));
            calls++;
        }
        if (calls < LEAST_CALLS) {
            wrong("README.md shows only " + calls + " calls");
        }
        end();
    }

    private static int answer(FoamHead x, String name, String told) throws Exception {
        String[] given = told.isEmpty() ? new String[0] : told.split(", ");
        for (Method m : FoamHead.class.getMethods()) {
            if (m.getName().equals(name) && m.getParameterCount() == given.length) {
                Object[] numbers = new Object[given.length];
                for (int i = 0; i < given.length; i++) {
                    long v = Long.decode(given[i].replace("L", ""));
                    boolean isLong = m.getParameterTypes()[i] == long.class;
                    numbers[i] = isLong ? (Object) v : (Object) (int) v;
                }
                return (Integer) m.invoke(x, numbers);
            }
        }
        wrong("no such call: " + name + "(" + told + ")");
        return 0;
    }
}
