import java.io.PrintWriter;
import java.io.StringWriter;
import java.nio.file.DirectoryStream;
import java.nio.file.Files;
import java.nio.file.Path;
import java.util.ArrayList;
import java.util.HashSet;
import java.util.List;
import java.util.Map;
import java.util.Set;
import java.util.TreeMap;
import java.util.TreeSet;
import java.util.regex.Matcher;
import java.util.regex.Pattern;
import java.util.spi.ToolProvider;

/** Rules 8 and 11 of LANGUAGE.md, by the class's bytecode: who calls whom, how deep, and how long methods are. */
public final class DepthTest {
    private static final int MOST_DEEP = 8;
    private static final int MOST_LINES = 60;
    /** The four kinds of search and of reading that go down; each has a guard on its depth. */
    private static final Set<String> RECURSIVE = Set.of("SummerHouses$Roofs.coverFrom", "SummerHouses$Way.goOn",
            "SummerHouses$Pairs.pairFrom", "SummerHouses$Reader.sum", "SummerHouses$Reader.product", "SummerHouses$Reader.unit");
    private static final Pattern METHOD = Pattern.compile("  (?:\\w+ )*?(?:[\\w.$\\[\\]]+ )?([\\w.$]+)\\(.*\\);");
    private static final Pattern INVOKED = Pattern.compile("// Method (?:([\\w/$]+)\\.)?\"?([\\w<>]+)\"?:");
    private static final Pattern LINE = Pattern.compile("\\s+line (\\d+): \\d+");

    private final Map<String, Set<String>> calls = new TreeMap<>();
    private final Map<String, Integer> firstLine = new TreeMap<>();
    private final Map<String, Integer> lastLine = new TreeMap<>();

    public static void main(String[] args) throws Exception {
        DepthTest test = new DepthTest();
        Path where = Path.of(SummerHouses.class.getProtectionDomain().getCodeSource().getLocation().toURI());
        try (DirectoryStream<Path> files = Files.newDirectoryStream(where, "SummerHouses*.class")) {
            for (Path file : files) {
                String name = file.getFileName().toString().replace(".class", "");
                if (name.equals("SummerHouses") || name.startsWith("SummerHouses$")) {
                    test.take(name, disassembled(file));
                }
            }
        }
        test.look();
        Check.end("DepthTest");
    }

    private static String disassembled(Path file) {
        StringWriter out = new StringWriter();
        ToolProvider javap = ToolProvider.findFirst("javap").orElseThrow();
        javap.run(new PrintWriter(out, true), new PrintWriter(System.out, true), "-c", "-p", "-l", file.toString());
        return out.toString();
    }

    private void take(String name, String told) {
        String method = "";
        for (String line : told.split("\n")) {
            Matcher begins = METHOD.matcher(line);
            Matcher invoked = INVOKED.matcher(line);
            Matcher at = LINE.matcher(line);
            if (line.equals("  static {};")) {
                // What fills rows that are written out is no method of the source.
                method = "";
            } else if (begins.matches()) {
                method = name + "." + (begins.group(1).equals(name) ? "<init>" : begins.group(1));
                calls.putIfAbsent(method, new TreeSet<>());
            } else if (invoked.find() && calls.containsKey(method)) {
                String of = invoked.group(1) == null ? name : invoked.group(1);
                calls.get(method).add(of + "." + invoked.group(2));
            } else if (at.matches() && calls.containsKey(method)) {
                firstLine.merge(method, Integer.parseInt(at.group(1)), Math::min);
                lastLine.merge(method, Integer.parseInt(at.group(1)), Math::max);
            }
        }
    }

    private void look() {
        Check.due("methods are found", calls.size() > 100, true);
        Check.due("calls are found", calls.get("SummerHouses.plan").contains("SummerHouses.keptByPlan"), true);
        for (String method : calls.keySet()) {
            boolean again = reached(method).contains(method);
            Check.due(method + " calls itself, by whatever way", again, RECURSIVE.contains(method));
            int deep = deepest(method, new ArrayList<>());
            Check.due(method + " goes " + deep + " deep", deep <= MOST_DEEP, true);
            int lines = lastLine.getOrDefault(method, 0) - firstLine.getOrDefault(method, 0);
            Check.due(method + " has " + lines + " lines", lines <= MOST_LINES, true);
        }
        Set<String> called = new HashSet<>();
        calls.values().forEach(called::addAll);
        for (String method : calls.keySet()) {
            Check.due(method + " is of use", method.startsWith("SummerHouses.") || called.contains(method), true);
        }
    }

    private Set<String> reached(String from) {
        Set<String> all = new TreeSet<>();
        List<String> open = new ArrayList<>(calls.get(from));
        while (!open.isEmpty()) {
            String method = open.remove(open.size() - 1);
            if (calls.containsKey(method) && all.add(method)) {
                open.addAll(calls.get(method));
            }
        }
        return all;
    }

    /** How many calls stand open at once; one that comes again within itself counts once. */
    private int deepest(String method, List<String> open) {
        if (open.contains(method) || !calls.containsKey(method)) {
            return 0;
        }
        open.add(method);
        int most = 0;
        for (String one : calls.get(method)) {
            most = Math.max(most, deepest(one, open));
        }
        open.remove(open.size() - 1);
        return most + 1;
    }
}
