import java.lang.management.ManagementFactory;
import java.lang.reflect.Constructor;
import java.lang.reflect.Field;
import java.lang.reflect.InvocationTargetException;
import java.lang.reflect.Method;
import java.lang.reflect.Modifier;
import java.nio.file.Files;
import java.nio.file.Path;
import java.util.Random;
import java.util.Set;
import java.util.TreeSet;
import java.util.regex.Matcher;
import java.util.regex.Pattern;

/** What LANGUAGE.md rules out, as far as a look at the source, at the class and at its memory can tell. */
public final class LanguageTest {
    private static final Set<String> FACE = Set.of("feed", "back", "read", "place", "house", "burn", "door", "mend",
            "cut", "bring", "days", "undo", "loss", "share", "enough", "plan", "worst", "lasts", "gone", "cold", "far",
            "round", "next", "pipes", "nearest", "saves", "first", "twins", "draughty", "roofs", "paired", "summers",
            "then", "year", "tell", "forget", "whose", "look", "hold", "restore", "count");
    private static final String[] RULED_OUT = {"\\bthrow\\b", "\\btry\\b", "\\bcatch\\b", "\\bsynchronized\\b",
        "\\bassert\\b", "->", "::", "\\bimport\\b", "Exact\\b", "\\bhashCode\\b", "\\btoString\\b", "\\bvolatile\\b",
        "\\bstatic\\s*\\{", "\\+\\s*\"", "\"\\s*\\+", "\\bfloat\\b", "\\bdouble\\b", "\\bpackage\\b"};
    private static final Set<String> LIBRARY = Set.of("Math.max", "Math.min", "Math.abs", "Integer.bitCount", "System.arraycopy");

    public static void main(String[] args) throws Exception {
        String source = Files.readString(Path.of("src/main/java/SummerHouses.java"));
        theFace();
        theClassesInside();
        theSource(source);
        theNames(withoutRemarks(source));
        theStatics();
        noCallThrows();
        theRoom();
        Check.end("LanguageTest");
    }

    private static void is(String what, boolean so) {
        Check.due(what, so, true);
    }

    private static void theFace() {
        int modifiers = SummerHouses.class.getModifiers();
        is("public and final", Modifier.isPublic(modifiers) && Modifier.isFinal(modifiers));
        Set<String> shown = new TreeSet<>();
        for (Method m : SummerHouses.class.getDeclaredMethods()) {
            if (!Modifier.isPrivate(m.getModifiers()) && !m.isSynthetic()) {
                is(m + " is public", Modifier.isPublic(m.getModifiers()));
                shown.add(m.getName());
            }
        }
        is("the methods are the document's: " + shown, shown.equals(FACE));
        for (Field f : SummerHouses.class.getDeclaredFields()) {
            is(f + " is private, but for NONE", Modifier.isPrivate(f.getModifiers()) || f.getName().equals("NONE"));
        }
        Constructor<?>[] constructors = SummerHouses.class.getDeclaredConstructors();
        is("one constructor", constructors.length == 1 && Modifier.isPublic(constructors[0].getModifiers()));
        Check.due("NONE", SummerHouses.NONE, -1);
    }

    private static void theClassesInside() {
        Class<?>[] inside = SummerHouses.class.getDeclaredClasses();
        is("some twelve classes", inside.length + 1 <= 12);
        sizeOf(SummerHouses.class);
        for (Class<?> c : inside) {
            is(c + " is static and not shown", Modifier.isStatic(c.getModifiers()) && !Modifier.isPublic(c.getModifiers())
                    && !Modifier.isProtected(c.getModifiers()));
            is(c + " has no class inside", c.getDeclaredClasses().length == 0);
            for (Method m : c.getDeclaredMethods()) {
                is(m + " has a name of its own", !FACE.contains(m.getName()));
            }
            sizeOf(c);
        }
    }

    private static void sizeOf(Class<?> c) {
        int fields = 0;
        for (Field f : c.getDeclaredFields()) {
            is(f + " is final if static", !Modifier.isStatic(f.getModifiers()) || Modifier.isFinal(f.getModifiers()));
            fields += Modifier.isStatic(f.getModifiers()) ? 0 : 1;
        }
        is(c + " has some twenty fields", fields <= 20);
        for (Method m : c.getDeclaredMethods()) {
            is(m + " has seven parameters at most", m.getParameterCount() <= 7);
            is(m + " is private or public", c != SummerHouses.class || !FACE.contains(m.getName())
                    || Modifier.isPublic(m.getModifiers()));
        }
    }

    private static String withoutRemarks(String source) {
        return source.replaceAll("(?s)/\\*.*?\\*/", " ").replaceAll("//[^\n]*", " ");
    }

    private static void theSource(String source) {
        String code = withoutRemarks(source);
        for (String pattern : RULED_OUT) {
            Matcher m = Pattern.compile(pattern).matcher(code);
            is("no " + pattern, !m.find());
        }
        Matcher calls = Pattern.compile("\\b(Math|Integer|System|Arrays|Long|String|List|Character)\\.\\w+").matcher(code);
        while (calls.find()) {
            is(calls.group() + " is in the library", LIBRARY.contains(calls.group()));
        }
        int lines = 0;
        for (String line : code.split("\n")) {
            boolean begins = line.matches("(    |        )(public|private|static|int|void|boolean|long)\\b[^;=]*\\{");
            lines = begins ? 0 : lines + 1;
            is("no method of more than 60 lines: " + line, lines <= 60 || line.matches("    }|}|\\s*|        (static|final|private|int|public).*;|    private.*;"));
        }
        is("signs 1 to 127", source.chars().allMatch(c -> c > 0 && c < 128));
    }

    /** Rules 2 to 4: no type and no method of the library but those that are listed, and no loop without an end. */
    private static void theNames(String code) {
        Set<String> types = new TreeSet<>(Set.of("SummerHouses", "String", "Math", "Integer", "System"));
        for (Class<?> c : SummerHouses.class.getDeclaredClasses()) {
            types.add(c.getSimpleName());
        }
        String plain = code.replaceAll("\"[^\"]*\"", "\"\"").replaceAll("'.'", "' '");
        Matcher names = Pattern.compile("\\b[A-Z]\\w*[a-z]\\w*\\b").matcher(plain);
        while (names.find()) {
            is(names.group() + " is a class of its own, or in the library", types.contains(names.group()));
        }
        Matcher ofTexts = Pattern.compile("\\b(WORDS|SIGNS)\\.(\\w+)").matcher(plain);
        while (ofTexts.find()) {
            is(ofTexts.group() + " is in the library", Set.of("length", "charAt", "indexOf").contains(ofTexts.group(2)));
        }
        for (String endless : new String[] {"while\\s*\\(\\s*true", "for\\s*\\([^;]*;\\s*;", "\\]\\s*\\[\\s*\\]\\s*\\["}) {
            is("no " + endless, !Pattern.compile(endless).matcher(plain).find());
        }
        is("a class alone extends nothing", !Pattern.compile("\\b(extends|implements|abstract|interface)\\b").matcher(plain).find());
    }

    /** Rule 5: numbers, texts and rows written out, which nothing sets. */
    private static void theStatics() throws Exception {
        Set<Class<?>> constants = Set.of(int.class, long.class, boolean.class, char.class, String.class);
        Set<Class<?>> rows = Set.of(int[].class, long[].class, char[].class, byte[].class);
        String code = withoutRemarks(Files.readString(Path.of("src/main/java/SummerHouses.java")));
        int found = 0;
        Class<?>[] inside = SummerHouses.class.getDeclaredClasses();
        for (int i = 0; i <= inside.length; i++) {
            for (Field f : (i == 0 ? SummerHouses.class : inside[i - 1]).getDeclaredFields()) {
                if (!Modifier.isStatic(f.getModifiers())) {
                    continue;
                }
                is(f + " is a constant or a row", constants.contains(f.getType()) || rows.contains(f.getType()));
                if (rows.contains(f.getType())) {
                    is(f + " is written out", Pattern.compile("\\b" + f.getName() + " = \\{").matcher(code).find());
                    is(f + " is never set", !Pattern.compile("\\b" + f.getName() + "\\[[^\\]]*\\]\\s*=[^=]").matcher(code).find());
                    found++;
                }
            }
        }
        is("there are some rows", found > 0);
    }

    private static final int[] ODD = {0, 1, -1, 2, -2, 3, 5, 6, 7, 9, 10, 11, 12, 13, 19, 20, 21, 30, 31, 60, 61, 99, 100, 999,
        1000, 1 << 30, Integer.MIN_VALUE, Integer.MIN_VALUE + 1, Integer.MAX_VALUE};
    private static final String[] BITS = {"house ", "cools=", "warms=", "fades=", "mends=", "coals ", "roof ", "hail ", "seed ",
        "if ", " then ", " else ", "panes", " broken", " heat", " kept ", "open ", "day", "which", " leaves", "burnt ", ";", "=",
        "+", "-", "*", "/", "<", "(", ")", "0", "1", "9999", "99999", "a", "abcdefgh", "abcdefghi", " ", "\n", ".", "\u00ff"};
    private static final String[] ODD_TELLS = {"fades=1/broken;", "warms=heat*heat*heat*9999;", "cools=kept/(heat-heat);",
        "mends=0-1;", "hail 100;", "fades=((((((kept))))))/3;", "seed 9999;", "roof 1;", "roof 99;", "coals 0;", "coals 999;",
        "cools=if heat<9999*9999*99/(0-1) then 8192*8192*32/(0-1) else 1/0;"};

    /** Rule 7: any arguments, in many states, and nothing is thrown. */
    private static void noCallThrows() throws Exception {
        Random random = new Random(5);
        Method[] methods = SummerHouses.class.getDeclaredMethods();
        java.util.Arrays.sort(methods, java.util.Comparator.comparing(Method::getName));
        int thrown = 0;
        for (int run = 0; run < 300; run++) {
            SummerHouses x = new SummerHouses();
            for (int i = 0; i < 512; i++) {
                if (i % 100 == 0) {
                    Check.feed(x, soup(random));
                    x.read();
                }
                thrown += throwsAny(x, methods[random.nextInt(methods.length)], random) ? 1 : 0;
                x.back(i % 10 == 0 ? x.count(8) : 0);
            }
        }
        Check.due("calls that threw", thrown, 0);
    }

    private static String soup(Random random) {
        StringBuilder s = new StringBuilder();
        if (random.nextInt(4) > 0) {
            int houses = random.nextInt(7);
            for (int h = 0; h < houses; h++) {
                s.append(Edge.house(String.valueOf((char) ('a' + h)), 1 + random.nextInt(20), random.nextInt(100), random.nextInt(1000),
                        random.nextInt(100), random.nextInt(100)));
            }
            for (String law : ODD_TELLS) {
                s.append(random.nextBoolean() ? law : "");
            }
            return s.toString();
        }
        int bits = random.nextInt(200);
        for (int i = 0; i < bits && s.length() < 900; i++) {
            s.append(BITS[random.nextInt(BITS.length)]);
        }
        return s.toString();
    }

    private static boolean throwsAny(SummerHouses x, Method m, Random random) throws Exception {
        if (!Modifier.isPublic(m.getModifiers())) {
            return false;
        }
        Object[] args = new Object[m.getParameterCount()];
        for (int i = 0; i < args.length; i++) {
            int some = random.nextInt(3) == 0 ? random.nextInt(7) : ODD[random.nextInt(ODD.length)];
            args[i] = m.getParameterTypes()[i] == boolean.class ? (Object) random.nextBoolean() : (Object) some;
        }
        try {
            m.invoke(x, args);
            return false;
        } catch (InvocationTargetException e) {
            System.out.println(m + java.util.Arrays.toString(args) + " threw " + e.getCause());
            return true;
        }
    }

    private static final String DEAR = "house a 20 0 999 0 0; house b 20 0 999 9 9; house c 20 0 999 5 5;"
            + "house d 20 0 999 7 7; house e 20 0 999 3 3; house f 20 0 999 2 2; roof 60; hail 50; fades = 900 - heat; warms = 2;";

    /** No call makes anything: all rows are made with the object. */
    private static void theRoom() {
        com.sun.management.ThreadMXBean bean = (com.sun.management.ThreadMXBean) ManagementFactory.getThreadMXBean();
        long thread = Thread.currentThread().getId();
        SummerHouses x = Check.of(DEAR);
        askAll(x);
        bean.getThreadAllocatedBytes(thread);
        long before = bean.getThreadAllocatedBytes(thread);
        for (int i = 0; i < 10; i++) {
            askAll(x);
        }
        long made = bean.getThreadAllocatedBytes(thread) - before;
        is("calls make nothing, but made " + made + " bytes", made < 4000);
        before = bean.getThreadAllocatedBytes(thread);
        for (int i = 0; i < 100; i++) {
            new SummerHouses();
        }
        long each = (bean.getThreadAllocatedBytes(thread) - before) / 100;
        is("an object is small, but has " + each + " bytes", each < 60000);
    }

    private static void askAll(SummerHouses x) {
        x.feed(0x726f6f66, 0x20363b20, 0x20202020, 0x20202020, 0x20202040);
        x.read();
        x.burn(1, 2);
        x.door(1, true);
        x.mend(1);
        x.cut(1, 2);
        x.bring(9);
        x.days(3);
        x.undo();
        x.loss(1, 30);
        x.share(30, 5);
        x.enough();
        x.plan(10, 0);
        x.worst(0);
        x.lasts();
        x.gone(1);
        x.cold(1);
        x.round(1);
        x.next(1, 5);
        x.pipes();
        x.nearest(1);
        x.saves(1);
        x.first();
        x.twins(0);
        x.draughty(0);
        x.roofs(1);
        x.paired(1);
        x.summers(5);
        x.then(1, 60, 0);
        x.year(1, 60, 20);
        x.tell(1, 1, true);
        x.whose(1, 0);
        x.look(1, 5);
        x.forget();
        x.hold(1);
        x.restore(1);
        x.count(13);
    }
}
