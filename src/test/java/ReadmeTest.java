import java.io.IOException;
import java.lang.reflect.InvocationTargetException;
import java.lang.reflect.Method;
import java.nio.charset.StandardCharsets;
import java.nio.file.Files;
import java.nio.file.Path;
import java.util.HashMap;
import java.util.Map;
import java.util.regex.Matcher;
import java.util.regex.Pattern;

/** Each call that README.md shows gives the answer that stands behind it, and README.md names each call and test. */
public final class ReadmeTest {
    private static final Due d = new Due("ReadmeTest");
    private static final Pattern SHOWN = Pattern.compile("^house\\.(\\w+)\\((.*)\\); +// (-?\\d+)\\b");

    public static void main(String[] args) throws IOException, ReflectiveOperationException {
        String readme = Files.readString(Path.of("README.md"), StandardCharsets.UTF_8);
        Map<String, Method> face = new HashMap<>();
        for (Method method : DownByTheHour.class.getMethods()) {
            if (method.getDeclaringClass() == DownByTheHour.class) {
                face.put(method.getName(), method);
            }
        }
        calls(readme, face);
        names(readme, face);
        d.end();
    }

    private static void calls(String readme, Map<String, Method> face) throws ReflectiveOperationException {
        DownByTheHour house = null;
        int shown = 0;
        for (String line : readme.split("\n")) {
            if (line.startsWith("DownByTheHour house = new DownByTheHour();")) {
                house = new DownByTheHour();
            } else if (line.startsWith("house.")) {
                Matcher call = SHOWN.matcher(line);
                boolean isShown = house != null && call.find() && face.containsKey(call.group(1));
                d.due("a call and its answer stand in " + line, isShown ? 1 : 0, 1);
                if (isShown) {
                    long got = answer(house, face.get(call.group(1)), call.group(2));
                    d.due(line, got, Long.parseLong(call.group(3)));
                    shown++;
                }
            }
        }
        d.due("README.md shows calls", shown > 0 ? 1 : 0, 1);
    }

    private static long answer(DownByTheHour house, Method method, String told)
            throws IllegalAccessException, InvocationTargetException {
        String[] numbers = told.isEmpty() ? new String[0] : told.split(", ");
        Object[] given = new Object[numbers.length];
        for (int i = 0; i < numbers.length; i++) {
            boolean isLong = method.getParameterTypes()[i] == long.class;
            long v = Long.decode(numbers[i].replace("L", ""));
            given[i] = isLong ? (Object) v : (Object) (int) v;
        }
        return ((Number) method.invoke(house, given)).longValue();
    }

    private static void names(String readme, Map<String, Method> face) throws IOException {
        for (String name : face.keySet()) {
            d.due("README.md names " + name, readme.contains("`" + name + "`") ? 1 : 0, 1);
        }
        try (var tests = Files.newDirectoryStream(Path.of("src/test/java"), "*Test.java")) {
            for (Path test : tests) {
                String name = test.getFileName().toString().replace(".java", "");
                d.due("README.md names " + name, readme.contains("`" + name + "`") ? 1 : 0, 1);
            }
        }
    }
}
