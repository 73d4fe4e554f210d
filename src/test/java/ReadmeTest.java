import java.lang.reflect.Method;
import java.nio.file.Files;
import java.nio.file.Path;
import java.util.regex.Matcher;
import java.util.regex.Pattern;

/** README.md shows one run on one object: each row must still answer what stands behind it. */
public final class ReadmeTest {
    private static final Pattern ROW =
        Pattern.compile("x\\.(\\w+)\\(([^)]*)\\); +// (-?\\d+)\\b.*");
    private static final Due due = new Due();

    public static void main(String[] args) throws Exception {
        MarkedSweeps x = new MarkedSweeps();
        int rows = 0;
        for (String line : Files.readAllLines(Path.of("README.md"))) {
            if (line.startsWith("x.")) {
                ask(x, line);
                rows++;
            }
        }
        due.is("README.md: there are rows", rows > 20 ? 1 : 0, 1);
        due.is("README.md: not more than an object is good for", rows <= 512 ? 1 : 0, 1);
        due.end();
    }

    private static void ask(MarkedSweeps x, String line) throws Exception {
        Matcher row = ROW.matcher(line);
        due.is("README.md: has an answer: " + line, row.matches() ? 1 : 0, 1);
        if (row.matches()) {
            Object got = call(x, row.group(1), row.group(2));
            due.is("README.md: " + line, ((Number) got).longValue(), Long.parseLong(row.group(3)));
        }
    }

    private static Object call(MarkedSweeps x, String name, String written) throws Exception {
        String[] texts = written.isBlank() ? new String[0] : written.split(",");
        for (Method m : MarkedSweeps.class.getMethods()) {
            if (m.getName().equals(name) && m.getParameterCount() == texts.length) {
                Object[] values = new Object[texts.length];
                for (int i = 0; i < texts.length; i++) {
                    long v = Long.parseLong(texts[i].trim());
                    boolean isLong = m.getParameterTypes()[i] == long.class;
                    values[i] = isLong ? (Object) v : (Object) Math.toIntExact(v);
                }
                return m.invoke(x, values);
            }
        }
        due.is("README.md: there is a call " + name + "(" + written + ")", 0, 1);
        return 0L;
    }
}
