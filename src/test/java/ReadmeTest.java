import java.lang.reflect.InvocationTargetException;
import java.lang.reflect.Method;
import java.nio.file.Files;
import java.nio.file.Path;
import java.util.Set;
import java.util.TreeSet;
import java.util.regex.Matcher;
import java.util.regex.Pattern;

/** The calls in README.md answer as it says there, and it names every call. */
public final class ReadmeTest {
    private static final Pattern CALL = Pattern.compile("x\\.(\\w+)\\(([^)]*)\\);\\s*// (-?\\d+|true|false)\\b.*");
    private static final Pattern PUT = Pattern.compile("put\\(x, \"(.*)\"\\);");

    public static void main(String[] args) throws Exception {
        String readme = Files.readString(Path.of("README.md"));
        SummerHouses x = new SummerHouses();
        boolean within = false;
        int calls = 0;
        for (String line : readme.split("\n")) {
            Matcher call = CALL.matcher(line);
            Matcher put = PUT.matcher(line);
            if (line.startsWith("```")) {
                within = line.equals("```java");
            } else if (within && line.equals("SummerHouses x = new SummerHouses();")) {
                x = new SummerHouses();
            } else if (within && put.matches()) {
                Check.feed(x, put.group(1));
            } else if (within && call.matches()) {
                Check.due(line, answer(x, call.group(1), call.group(2)), number(call.group(3)));
                calls++;
            }
        }
        Check.due("calls are found", calls > 25, true);
        namesAll(readme);
        Check.end("ReadmeTest");
    }

    private static int number(String told) {
        return told.equals("NONE") ? SummerHouses.NONE : told.equals("true") ? 1 : told.equals("false") ? 0 : Integer.decode(told);
    }

    private static int answer(SummerHouses x, String name, String told) throws IllegalAccessException, InvocationTargetException {
        for (Method m : SummerHouses.class.getMethods()) {
            if (m.getName().equals(name)) {
                String[] words = told.isEmpty() ? new String[0] : told.split(", ");
                Object[] args = new Object[words.length];
                for (int i = 0; i < words.length; i++) {
                    args[i] = m.getParameterTypes()[i] == boolean.class ? (Object) Boolean.valueOf(words[i]) : (Object) number(words[i]);
                }
                Object got = m.invoke(x, args);
                return got instanceof Boolean ? ((Boolean) got ? 1 : 0) : (Integer) got;
            }
        }
        throw new IllegalStateException("no call " + name);
    }

    private static void namesAll(String readme) {
        Set<String> missing = new TreeSet<>();
        for (Method m : SummerHouses.class.getDeclaredMethods()) {
            if (java.lang.reflect.Modifier.isPublic(m.getModifiers()) && !readme.contains("`" + m.getName() + "`")) {
                missing.add(m.getName());
            }
        }
        Check.due("calls that README.md does not name: " + missing, missing.size(), 0);
    }
}
