import java.lang.management.ManagementFactory;
import java.lang.reflect.Constructor;
import java.lang.reflect.Field;
import java.lang.reflect.Method;
import java.lang.reflect.Modifier;
import java.nio.file.Files;
import java.nio.file.Path;
import java.util.Set;
import java.util.TreeSet;
import java.util.regex.Matcher;
import java.util.regex.Pattern;

/** What LANGUAGE.md rules out, as far as a look at the source, at the class and at its memory can tell. */
public final class LanguageTest {
    private static final Set<String> FACE = Set.of("feed", "back", "read", "place", "house", "burn", "door", "mend",
            "cut", "bring", "days", "undo", "loss", "share", "enough", "plan", "worst", "lasts", "gone", "cold", "far",
            "round", "next", "pipes", "nearest", "saves", "first", "twins", "draughty", "roofs", "paired", "summers",
            "then", "year", "tell", "forget", "whose", "look", "hold", "restore", "count");
    private static final String[] RULED_OUT = {"\\bthrow\\b", "\\btry\\b", "\\bcatch\\b", "\\bsynchronized\\b",
        "\\bassert\\b", "->", "::", "\\bimport\\b", "Exact\\b", "\\bhashCode\\b", "\\btoString\\b", "\\bvolatile\\b",
        "\\bstatic\\s*\\{", "\\+\\s*\"", "\"\\s*\\+", "\\bfloat\\b", "\\bdouble\\b", "\\bpackage\\b"};
    private static final Set<String> LIBRARY = Set.of("Math.max", "Math.min", "Math.abs", "Integer.bitCount", "System.arraycopy");

    public static void main(String[] args) throws Exception {
        theFace();
        theClassesInside();
        theSource(Files.readString(Path.of("src/main/java/SummerHouses.java")));
        theRoom();
        Check.end("LanguageTest");
    }

    private static void is(String what, boolean so) {
        Check.due(what, so, true);
    }

    private static void theFace() {
        int modifiers = SummerHouses.class.getModifiers();
        is("public and final", Modifier.isPublic(modifiers) && Modifier.isFinal(modifiers));
        Set<String> shown = new TreeSet<>();
        for (Method m : SummerHouses.class.getDeclaredMethods()) {
            if (!Modifier.isPrivate(m.getModifiers()) && !m.isSynthetic()) {
                is(m + " is public", Modifier.isPublic(m.getModifiers()));
                shown.add(m.getName());
            }
        }
        is("the methods are the document's: " + shown, shown.equals(FACE));
        for (Field f : SummerHouses.class.getDeclaredFields()) {
            is(f + " is private, but for NONE", Modifier.isPrivate(f.getModifiers()) || f.getName().equals("NONE"));
        }
        Constructor<?>[] constructors = SummerHouses.class.getDeclaredConstructors();
        is("one constructor", constructors.length == 1 && Modifier.isPublic(constructors[0].getModifiers()));
        Check.due("NONE", SummerHouses.NONE, -1);
    }

    private static void theClassesInside() {
        Class<?>[] inside = SummerHouses.class.getDeclaredClasses();
        is("some twelve classes", inside.length + 1 <= 12);
        sizeOf(SummerHouses.class);
        for (Class<?> c : inside) {
            is(c + " is static and not shown", Modifier.isStatic(c.getModifiers()) && !Modifier.isPublic(c.getModifiers())
                    && !Modifier.isProtected(c.getModifiers()));
            is(c + " has no class inside", c.getDeclaredClasses().length == 0);
            for (Method m : c.getDeclaredMethods()) {
                is(m + " has a name of its own", !FACE.contains(m.getName()));
            }
            sizeOf(c);
        }
    }

    private static void sizeOf(Class<?> c) {
        int fields = 0;
        for (Field f : c.getDeclaredFields()) {
            is(f + " is final if static", !Modifier.isStatic(f.getModifiers()) || Modifier.isFinal(f.getModifiers()));
            fields += Modifier.isStatic(f.getModifiers()) ? 0 : 1;
        }
        is(c + " has some twenty fields", fields <= 20);
        for (Method m : c.getDeclaredMethods()) {
            is(m + " has seven parameters at most", m.getParameterCount() <= 7);
            is(m + " is private or public", c != SummerHouses.class || !FACE.contains(m.getName())
                    || Modifier.isPublic(m.getModifiers()));
        }
    }

    private static void theSource(String source) {
        String code = source.replaceAll("(?s)/\\*.*?\\*/", " ").replaceAll("//[^\n]*", " ");
        for (String pattern : RULED_OUT) {
            Matcher m = Pattern.compile(pattern).matcher(code);
            is("no " + pattern, !m.find());
        }
        Matcher calls = Pattern.compile("\\b(Math|Integer|System|Arrays|Long|String|List|Character)\\.\\w+").matcher(code);
        while (calls.find()) {
            is(calls.group() + " is in the library", LIBRARY.contains(calls.group()));
        }
        int lines = 0;
        for (String line : code.split("\n")) {
            boolean begins = line.matches("(    |        )(public|private|static|int|void|boolean|long)\\b[^;=]*\\{");
            lines = begins ? 0 : lines + 1;
            is("no method of more than 60 lines: " + line, lines <= 60 || line.matches("    }|}|\\s*|        (static|final|private|int|public).*;|    private.*;"));
        }
        is("signs 1 to 127", source.chars().allMatch(c -> c > 0 && c < 128));
    }

    private static final String DEAR = "house a 20 0 999 0 0; house b 20 0 999 9 9; house c 20 0 999 5 5;"
            + "house d 20 0 999 7 7; house e 20 0 999 3 3; house f 20 0 999 2 2; roof 60; hail 50; fades = 900 - heat; warms = 2;";

    /** No call makes anything: all rows are made with the object. */
    private static void theRoom() {
        com.sun.management.ThreadMXBean bean = (com.sun.management.ThreadMXBean) ManagementFactory.getThreadMXBean();
        long thread = Thread.currentThread().getId();
        SummerHouses x = Check.of(DEAR);
        askAll(x);
        bean.getThreadAllocatedBytes(thread);
        long before = bean.getThreadAllocatedBytes(thread);
        for (int i = 0; i < 10; i++) {
            askAll(x);
        }
        long made = bean.getThreadAllocatedBytes(thread) - before;
        is("calls make nothing, but made " + made + " bytes", made < 4000);
        before = bean.getThreadAllocatedBytes(thread);
        for (int i = 0; i < 100; i++) {
            new SummerHouses();
        }
        long each = (bean.getThreadAllocatedBytes(thread) - before) / 100;
        is("an object is small, but has " + each + " bytes", each < 60000);
    }

    private static void askAll(SummerHouses x) {
        x.feed(0x726f6f66, 0x20363b20, 0x20202020, 0x20202020, 0x20202040);
        x.read();
        x.burn(1, 2);
        x.door(1, true);
        x.mend(1);
        x.cut(1, 2);
        x.bring(9);
        x.days(3);
        x.undo();
        x.loss(1, 30);
        x.share(30, 5);
        x.enough();
        x.plan(10, 0);
        x.worst(0);
        x.lasts();
        x.gone(1);
        x.cold(1);
        x.round(1);
        x.next(1, 5);
        x.pipes();
        x.nearest(1);
        x.saves(1);
        x.first();
        x.twins(0);
        x.draughty(0);
        x.roofs(1);
        x.paired(1);
        x.summers(5);
        x.then(1, 60, 0);
        x.year(1, 60, 20);
        x.tell(1, 1, true);
        x.whose(1, 0);
        x.look(1, 5);
        x.forget();
        x.hold(1);
        x.restore(1);
        x.count(13);
    }
}
