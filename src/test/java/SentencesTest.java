import java.io.IOException;
import java.lang.reflect.Constructor;
import java.lang.reflect.Method;
import java.lang.reflect.Modifier;
import java.math.BigInteger;
import java.nio.file.DirectoryStream;
import java.nio.file.Files;
import java.nio.file.Path;
import java.util.Random;
import java.util.Set;
import java.util.TreeSet;
import java.util.regex.Matcher;
import java.util.regex.Pattern;

/**
 * The document from its first line: its face as it is written there, its parts I and II sentence by sentence, and that
 * no word of it stands without a test over it.
 */
public final class SentencesTest {
    private static final int NONE = Edge.NONE;
    private static final String[] LAWS = {"cools", "warms", "fades", "mends"};
    private static final String[] VARS = {"panes", "broken", "heat", "kept", "open", "day", "which", "leaves", "burnt"};

    public static void main(String[] args) throws IOException {
        face();
        houses();
        untoldLaws();
        lastLaws();
        lawsByHand();
        vars();
        lots();
        burns();
        aDay();
        byHand();
        byHandAnswers();
        faults();
        calls512();
        everyWordHasATest();
        Edge.end("SentencesTest", 6, 13);
    }

    // ---- the face

    private static String type(Class<?> c) {
        return c.getSimpleName();
    }

    private static String types(Class<?>[] all) {
        StringBuilder s = new StringBuilder();
        for (Class<?> one : all) {
            s.append(s.length() > 0 ? ", " : "").append(type(one));
        }
        return s.toString();
    }

    /** What the document's face says, each line with its parameters' types alone. */
    private static Set<String> faceOfDocument() throws IOException {
        String doc = Files.readString(Path.of("../shared/DOC.md"));
        Matcher block = Pattern.compile("(?s)```java\\s*public final class SummerHouses \\{(.*?)\\n\\}\\s*```").matcher(doc);
        Check.due("the document has a face", block.find(), true);
        Set<String> face = new TreeSet<>();
        for (String line : block.group(1).split("\n")) {
            String told = line.trim();
            if (!told.isEmpty()) {
                face.add(told.replaceAll("(\\w+) \\w+(?=[,)])", "$1").replaceAll(";$", ""));
            }
        }
        return face;
    }

    private static void face() throws IOException {
        Set<String> face = new TreeSet<>();
        for (Method m : SummerHouses.class.getDeclaredMethods()) {
            if (Modifier.isPublic(m.getModifiers())) {
                Check.due(m + " is no static one", Modifier.isStatic(m.getModifiers()), false);
                Check.due(m + " tells of no exception", m.getExceptionTypes().length, 0);
                face.add("public " + type(m.getReturnType()) + " " + m.getName() + "(" + types(m.getParameterTypes()) + ")");
            }
        }
        for (Constructor<?> c : SummerHouses.class.getConstructors()) {
            face.add("public SummerHouses(" + types(c.getParameterTypes()) + ")");
        }
        face.add("public static final int NONE = " + SummerHouses.NONE);
        Set<String> told = faceOfDocument();
        Check.due("the face is the document's: " + face + " is " + told, face.equals(told), true);
        Check.due("a constant, a constructor and 41 methods", told.size(), 43);
        Check.due("the class is public and final", SummerHouses.class.getModifiers(), Modifier.PUBLIC | Modifier.FINAL);
    }

    // ---- I. texts

    private static void houses() {
        Edge.of(6, "HOUSES, 6 at most (a NAME, PANES 1 .. 20, HEAT 0 .. 99, how much is KEPT 0 .. 999, X 0 .. 99, Y 0 .. 99),"
                + " numbered from 0 on as they stand.");
        int[] whats = {0, 2, 3, 11, 12};
        int[] most = {20, 99, 999, 99, 99};
        Random r = new Random(3);
        String[] names = {"z", "aaaaaaaa", "m", "houses", "i", "coal"};
        for (int round = 0; round < 30; round++) {
            int houses = round % 7;
            int[][] told = new int[houses][5];
            StringBuilder text = new StringBuilder();
            for (int h = 0; h < houses; h++) {
                for (int i = 0; i < 5; i++) {
                    told[h][i] = i == 0 ? 1 + r.nextInt(20) : r.nextInt(most[i] + 1);
                }
                text.append(round % 2 == 0 ? "" : " seed 5 ;");
                text.append(Edge.house(names[h], told[h][0], told[h][1], told[h][2], told[h][3], told[h][4]));
            }
            SummerHouses x = Check.of(text.toString());
            Edge.is("HOUSES", x.count(0), houses);
            for (int i = 0; i < 5 * houses; i++) {
                Edge.is("house(" + i / 5 + ", " + whats[i % 5] + ") of " + text, x.house(i / 5, whats[i % 5]), told[i / 5][i % 5]);
            }
        }
    }

    private static void untoldLaws() {
        Edge.of(6, "LAWS: COOLS (broken and 1, added), WARMS (5), FADES (1), MENDS (1), if not told; the last one.");
        for (int told = 0; told < 16; told++) {
            StringBuilder text = new StringBuilder("house a 9 30 90 0 0; hail 100;");
            for (int law = 0; law < 4; law++) {
                text.append((told >> law & 1) == 1 ? LAWS[law] + " = " + (40 + law) + ";" : "");
            }
            SummerHouses x = Check.of(text.toString());
            x.days(2);
            int[] untold = {3, 5, 1, 1};
            int kept = x.house(0, 3);
            for (int law = 0; law < 4; law++) {
                int value = law == 2 ? Math.min(kept, 42) : 40 + law;
                Edge.is(LAWS[law] + " of " + text, x.house(0, 7 + law), (told >> law & 1) == 1 ? value : untold[law]);
            }
        }
    }

    private static void lastLaws() {
        Edge.of(6, "COALS 0 .. 999 (20), ROOF 1 .. 99: how many PANES one roof may have over it (20), HAIL: on how many of 100"
                + " days 0 .. 100 (0), SEED 0 .. 9999 (0): the last one.");
        SummerHouses x = Check.of("roof 3; coals 9; roof 4; cools = 7; coals 8; cools = 6; coals 7; roof 99; warms = 9; cools = 5;"
                + "house a 1 1 1 1 1; warms = 8;");
        int[] due = {5, 8, 1, 1};
        for (int law = 0; law < 4; law++) {
            Edge.is(LAWS[law] + ", the last one", x.house(0, 7 + law), due[law]);
        }
        Edge.is("COALS, the last one", x.count(2), 7);
        Edge.is("ROOF, the last one", x.count(18), 99);
    }

    private static void faults() {
        Edge.of(4, "FAULTS of a text, the first by its place (a byte; the text's end: its length), of one place the least: 1"
                + " SYNTAX: a TOKEN, or what is none, with which no text goes on. 2 ROOM: a 401st TOKEN; one more of a sort"
                + " than told (at its first TOKEN); a 5th if of a LAW (at it); a 7th ( within one another (at it). If there is"
                + " none, likewise: 3 TWICE: a NAME told already. 5 WRONG (at the INT): a number not as told above.");
        String six = Edge.keeping(1, 2, 3, 4, 5, 6);
        String ifs = "fades=" + "if 1<2 then 3 else ".repeat(4);
        String full = "fades=1" + "+1".repeat(198) + ";";
        String[] texts = {"house a 0 100 1000 100 100;", "house a 21 0 0 0 0; house a 1 0 0 0 0;",
            "house a 1 0 0 0 0; house a 21 0 0 0 0;", "house a 21 0 0 0 0; house a 1 0 0 0 0; ,", six + "house f 0 0 0 0 0;",
            six + "roof 0; house", "roof 0; " + six + "house", ifs + "if", ifs + "9 if", "fades=((((((((", "fades=(((((((9",
            "fades=((((((9))))));roof 0;", "fades=((((((9))))))+(((((((9", full, full + " roof 5;", full + "9", "roof 0;" + full,
            "roof 100; coals 1000", "roof 100; coals 1000;", "coals 1000; roof 100;", "house abcdefghi 1",
            "hail 101; seed 10000;", "hail 101; seed 9999;", "then", "  ", "cools = heat kept;", "cools = if heat then 1 else 2;"};
        int[] number = {5, 5, 3, 1, 2, 2, 2, 2, 1, 2, 2, 5, 2, 0, 2, 1, 2, 1, 5, 5, 1, 1, 5, 1, 0, 1, 1};
        int seventh = six.length();
        int[] place = {8, 8, 25, 39, seventh, seventh + 8, 8 + seventh, ifs.length(), ifs.length() + 2, 12, 12, 25, 26, NONE,
            405, 404, 408, 20, 5, 6, 6, 15, 5, 0, NONE, 13, 16};
        for (int i = 0; i < texts.length; i++) {
            SummerHouses x = new SummerHouses();
            Edge.is("read() of " + texts[i], Check.read(x, texts[i]), number[i]);
            Edge.is("place() of " + texts[i], x.place(), place[i]);
        }
    }

    // ---- II. laws

    private static void lawsByHand() {
        Edge.of(6, "LAWS: the E of the first if that holds (one less than the other), else the last one; ints of 32 bits that"
                + " wrap, / rounded towards 0; a LAW in which something that is looked at is divided by 0 is 0.");
        String[] told = {"if 1<1 then 2 else if 1<2 then 3 else if 0<1 then 4 else 5", "if 5<4 then 9/0 else 8",
            "if 4<5 then 9/0 else 8", "if 4<5 then 8 else 9/0", "if 4/0<5 then 8 else 8", "if 5<4/0 then 8 else 8",
            "if 5<4 then 8 else if 1/0<2 then 8 else 8", "if 4<5 then 8 else if 1/0<2 then 8 else 8", "(0-7)/2+20", "7/(0-2)+20",
            "(0-7)/(0-2)+20", "7/2*2", "7*2/2", "9-4-3", "9-(4-3)", "64/4/4", "64/(4/4)", "2+3*4-6/2", "0*(1/0)+7",
            "if 9999*9999*22<0 then 11 else 12", "if 9999*9999*43<9999*9999*21 then 11 else 12", "0-9", "98+1", "98+2", "0/9"};
        int[] due = {3, 8, 0, 8, 0, 0, 0, 8, 17, 17, 23, 6, 7, 2, 8, 4, 64, 11, 0, 11, 11, 0, 99, 99, 0};
        for (int i = 0; i < told.length; i++) {
            for (int law = 0; law < 4; law++) {
                SummerHouses x = Check.of("house a 1 0 999 0 0; " + LAWS[law] + " = " + told[i] + ";");
                int most = law == 2 && i == 23 ? 100 : due[i];
                Edge.is(LAWS[law] + " = " + told[i], x.house(0, 7 + law), most);
            }
        }
    }

    private static void vars() {
        Edge.of(6, "VAR: 'panes' | 'broken' | 'heat' | 'kept' | 'open' | 'day' | 'which' | 'leaves' | 'burnt'.");
        varsOf("");
        Edge.of(6, "Of a HOUSE: panes; broken: how many of these are; heat; kept; open: 1 its door is open, 0 shut; day; which:"
                + " its number; leaves: how many CUTTINGS it got so far; burnt: how many COALS were burnt in it today.");
        varsOf("0 + ");
    }

    /** Each VAR in each LAW, of each of three houses that differ in all of them. */
    private static void varsOf(String ahead) {
        // The cell's "what" in house(); the day and the house's number are none.
        int[] whats = {0, 1, 2, 3, 4, NONE, NONE, 5, 6};
        for (int i = 0; i < 4 * VARS.length; i++) {
            String law = LAWS[i % 4];
            String var = VARS[i / 4];
            SummerHouses x = Check.of("house a 5 31 60 0 0; house b 6 42 70 0 0; house c 7 53 80 0 0; fades = 2; cools = 3;"
                    + "warms = 1; hail 100; coals 99;" + law + " = " + ahead + var + ";");
            x.days(3);
            x.burn(1, 2);
            x.burn(2, 5);
            x.door(1, true);
            x.cut(0, 2);
            x.cut(1, 2);
            x.cut(2, 0);
            for (int h = 0; h < 3; h++) {
                int value = var.equals("day") ? 3 : var.equals("which") ? h : x.house(h, whats[i / 4]);
                int most = law.equals("fades") ? x.house(h, 3) : 99;
                Edge.is(law + " = " + var + " of " + h, x.house(h, 7 + i % 4), Math.min(most, value));
            }
        }
    }

    // ---- II. LOTs

    private static final BigInteger WORD = BigInteger.ONE.shiftLeft(32);

    /** The document's words once more, in numbers that do not wrap but by mod(). */
    private static int lot(int n, int seed, int which) {
        BigInteger h = BigInteger.valueOf(seed);
        for (int it : new int[] {177, which}) {
            h = h.xor(BigInteger.valueOf(it)).multiply(BigInteger.valueOf(1103515245)).add(BigInteger.valueOf(12345)).mod(WORD);
            h = h.xor(h.shiftRight(15));
        }
        return h.shiftRight(1).mod(BigInteger.valueOf(n)).intValueExact();
    }

    private static void lots() {
        Edge.of(12, "LOT n of a SEED and a which: h is the SEED; for each of 177, which: h becomes (h and it, each bit of which"
                + " is in just one) times 1103515245 and 12345 more, then h and h moved 15 bits down (zeros come in), likewise;"
                + " the rest of h, moved 1 bit down likewise, by n (32 bits that wrap).");
        for (int i = 0; i < 60; i++) {
            int seed = i * 1021 % 10000;
            int hail = i * 7 % 101;
            int houses = 1 + i % 6;
            int[] panes = {4, 20, 7, 20, 20, 13};
            int[] broken = new int[houses];
            SummerHouses x = Check.of(Edge.glazed(java.util.Arrays.copyOf(panes, houses)) + "seed " + seed + "; hail " + hail + ";");
            for (int day = 0; day < 30; day++) {
                boolean hails = lot(100, seed, 4 * day) < hail;
                Edge.is("HAIL by " + hail + ", SEED " + seed + ", day " + day, x.count(12), hails ? 1 : 0);
                int struck = lot(houses, seed, 4 * day + 1);
                broken[struck] = Math.min(panes[struck], broken[struck] + (hails ? 1 : 0));
                x.days(1);
                Edge.is("broken ones of " + struck + ", SEED " + seed + ", day " + day, x.house(struck, 1), broken[struck]);
            }
            int sum = 0;
            for (int one : broken) {
                sum += one;
            }
            Edge.is("broken ones of all, SEED " + seed, x.count(5), sum);
        }
    }

    // ---- II. coals and days

    private static final String THREE = "house a 9 20 300 0 0; house b 9 70 200 5 0; house c 9 3 100 0 7; coals 300; seed 12;"
            + "hail 60; warms = 9 - burnt / 2; fades = kept / 20 + burnt + open; cools = heat / 4 + broken; mends = 2 + broken;";

    private static void burns() {
        Edge.of(7, "To BURN n COALS in a HOUSE: one by one, each by how it is then: it is warmer by WARMS (999 at most), one COAL"
                + " less, one more burnt in it.");
        for (int n = 1; n <= 99; n += 7) {
            SummerHouses x = Check.of(THREE);
            SummerHouses y = Check.of(THREE);
            int heat = x.burn(1, n);
            for (int i = 0; i < n; i++) {
                int warmer = y.house(1, 8);
                int before = y.house(1, 2);
                Edge.is("warmer by WARMS", y.burn(1, 1), Math.min(999, before + warmer));
            }
            Edge.is("one by one", heat, y.house(1, 2));
            for (int house = 0; house < 3; house++) {
                for (int what = 0; what < 13; what++) {
                    Edge.is("house(" + house + ", " + what + "), one by one", x.house(house, what), y.house(house, what));
                }
            }
            Edge.is("COALS", x.count(2), 300 - n);
            Edge.is("burnt in it", x.house(1, 6), n);
            Edge.is("burnt so far", x.count(14), n);
        }
    }

    private static void aDay() {
        Edge.of(12, "A DAY, each HOUSE by how it was as the day began (with what was burnt in it): less is KEPT, by FADES; it is"
                + " cooler by COOLS (0 at least), twice as much if its door is open; then, if there is HAIL (LOT 100 of the SEED"
                + " and 4 * the day is less than it) and there are HOUSES, in the HOUSE LOT of how many HOUSES there are of the"
                + " SEED and 4 * the day and 1 a pane breaks, if one is whole; nothing is burnt in any. It is the next day.");
        SummerHouses x = Check.of(THREE);
        for (int day = 0; day < 12; day++) {
            x.burn(day % 3, 1 + day % 4);
            x.door((day + 1) % 3, day % 2 == 0);
            int[][] due = new int[3][];
            for (int h = 0; h < 3; h++) {
                int cooler = x.house(h, 7) * (x.house(h, 4) == 1 ? 2 : 1);
                boolean struck = lot(100, 12, 4 * day) < 60 && lot(3, 12, 4 * day + 1) == h;
                due[h] = new int[] {9, Math.min(9, x.house(h, 1) + (struck ? 1 : 0)), Math.max(0, x.house(h, 2) - cooler),
                    x.house(h, 3) - x.house(h, 9), x.house(h, 4), x.house(h, 5), 0};
            }
            int coals = x.count(2);
            int burnt = x.count(14);
            Edge.is("days(1)", x.days(1), day + 1);
            for (int i = 0; i < 21; i++) {
                Edge.is("house(" + i / 7 + ", " + i % 7 + ") behind day " + day, x.house(i / 7, i % 7), due[i / 7][i % 7]);
            }
            Edge.is("COALS stay", x.count(2), coals);
            Edge.is("what was burnt so far stays", x.count(14), burnt);
        }
    }

    // ---- II. by hand

    private static int[] all(SummerHouses x) {
        int[] all = new int[60];
        for (int i = 0; i < 20; i++) {
            all[i] = x.count(i);
        }
        for (int i = 0; i < 21; i++) {
            all[20 + i] = x.house(i / 7, i % 7);
        }
        for (int i = 0; i < 6; i++) {
            all[41 + i] = x.house(i / 2, 11 + i % 2);
        }
        return all;
    }

    /** Behind a thing done just these differ: rows of a number of all() and by how much it is more. */
    private static void changes(String call, int[] before, SummerHouses x, int[][] more) {
        int[] due = before.clone();
        for (int[] one : more) {
            due[one[0]] += one[1];
        }
        int[] after = all(x);
        for (int i = 0; i < due.length; i++) {
            // LOSS of all follows from the rest.
            if (i != 13) {
                Edge.is(call + ": number " + i, after[i], due[i]);
            }
        }
    }

    private static void byHand() {
        Edge.of(10, "By hand: COALS are BURNT; a door is opened, or shut; a broken pane is MENDED: for MENDS COALS, if there are"
                + " as many; a CUTTING goes from a HOUSE to another one: a tenth of what is KEPT there, rounded down, goes into"
                + " the other (999 at most, what is more is gone), which got one more; COALS are brought (1 .. 99; 9,999 at"
                + " most); DAYS go by.");
        SummerHouses x = Check.of("house a 9 20 305 0 0; house b 9 70 200 5 0; house c 9 3 980 0 7; coals 300; hail 100;"
                + "warms = 4; fades = 0; cools = 0; mends = 3;");
        int[] before = all(x);
        x.days(1);
        changes("days(1)", before, x, new int[][] {{1, 1}, {5, 1}, {9, 1}, {21 + 7 * lot(3, 0, 1), 1}});
        int struck = lot(3, 0, 1);
        before = all(x);
        Edge.is("mend", x.mend(struck), 3);
        changes("mend", before, x, new int[][] {{2, -3}, {5, -1}, {9, 1}, {21 + 7 * struck, -1}});
        before = all(x);
        Edge.is("burn(1, 2)", x.burn(1, 2), 78);
        changes("burn(1, 2)", before, x, new int[][] {{2, -2}, {4, 8}, {9, 1}, {14, 2}, {19, 2}, {29, 8}, {33, 2}});
        before = all(x);
        Edge.is("door(2, true)", x.door(2, true), true);
        changes("door(2, true)", before, x, new int[][] {{6, 4}, {9, 1}, {38, 1}});
        before = all(x);
        Edge.is("cut(0, 1)", x.cut(0, 1), 30);
        changes("cut(0, 1)", before, x, new int[][] {{9, 1}, {16, 1}, {23, -30}, {30, 30}, {32, 1}});
        before = all(x);
        Edge.is("cut(0, 2): 8 of 27 are gone", x.cut(0, 2), 27);
        changes("cut(0, 2)", before, x, new int[][] {{3, -8}, {9, 1}, {16, 1}, {23, -27}, {37, 19}, {39, 1}});
        before = all(x);
        Edge.is("bring(99)", x.bring(99), 394);
        changes("bring(99)", before, x, new int[][] {{2, 99}, {9, 1}});
        before = all(x);
        Edge.is("door(2, false)", x.door(2, false), true);
        changes("door(2, false)", before, x, new int[][] {{6, -4}, {9, 1}, {38, -1}});
        for (int i = 0; i < 8; i++) {
            Edge.is("undo()", x.undo(), true);
        }
        Edge.is("all is undone", x.undo(), false);
        Edge.is("day 0", x.count(1), 0);
    }

    private static void byHandAnswers() {
        Edge.of(7, "n COALS (1 .. 99) are BURNT: the HEAT then; NONE, and nothing happens: there are not so many, no such ones.");
        SummerHouses x = Check.of("house a 3 5 45 0 0; house b 3 5 9 0 0; coals 50; mends = 7; hail 100; fades = 0;");
        Edge.is("burn(0, 2)", x.burn(0, 2), 15);
        Edge.of(8, "A door is opened, or shut: true; false, and nothing happens: it is so, no such HOUSE.");
        Edge.is("door(0, true)", x.door(0, true), true);
        Edge.is("door(0, false)", x.door(0, false), true);
        Edge.of(9, "A pane is MENDED: for how many COALS; NONE, and nothing happens: none is broken, there are too few, no such"
                + " HOUSE.");
        Edge.is("none is broken", x.mend(0), NONE);
        x.days(2);
        Edge.is("two are", x.count(5), 2);
        int house = x.house(0, 1) > 0 ? 0 : 1;
        Edge.is("mend", x.mend(house), 7);
        Edge.of(10, "A CUTTING goes: how much; NONE, and nothing happens: no such ones, one and the same.");
        Edge.is("cut(0, 1)", x.cut(0, 1), 4);
        Edge.is("cut(1, 0)", x.cut(1, 0), 1);
        Edge.is("cut(1, 1)", x.cut(1, 1), NONE);
        Edge.of(11, "COALS are brought: how many there are; NONE, and nothing happens: no such n.");
        Edge.is("bring(3)", x.bring(3), 50 - 2 - 7 + 3);
        Edge.of(12, "n DAYS (0 .. 60; 0 is no thing done) go by: which it is; NONE, and nothing happens: no such n.");
        Edge.is("days(3)", x.days(3), 5);
        Edge.is("days(0)", x.days(0), 5);
        Edge.of(13, "The last thing done (burn, door, mend, cut, bring, days) is undone: true; false: there is none (the last 40"
                + " can be).");
        int[] whats = {1, 2, 16, 16, 2, 1};
        int[] due = {2, 41, 1, 0, 48, 0};
        for (int i = 0; i < 6; i++) {
            Edge.is("undo()", x.undo(), true);
            Edge.is("count(" + whats[i] + ") behind " + (i + 1) + " undone", x.count(whats[i]), due[i]);
        }
        for (int i = 0; i < 3; i++) {
            Edge.is("undo()", x.undo(), true);
        }
        Edge.is("none is left", x.undo(), false);
    }

    private static void calls512() {
        Edge.of(12, "An object is used for at most 512 calls after it has been made; what later calls answer is free.");
        SummerHouses x = new SummerHouses();
        for (int i = 1; i <= 512; i++) {
            Edge.is("call " + i, x.days(60), 60 * i);
        }
    }

    // ---- the document's words

    /** The words that stand over tests, as they are written there; not those that a test puts together as it runs. */
    private static Set<String> named() throws IOException {
        Set<String> named = new TreeSet<>();
        Pattern of = Pattern.compile("Edge\\.of\\(\\s*\\d+,\\s*((?:\"(?:[^\"\\\\]|\\\\.)*\"\\s*\\+?\\s*)+)\\);");
        Pattern quoted = Pattern.compile("\"((?:[^\"\\\\]|\\\\.)*)\"");
        try (DirectoryStream<Path> files = Files.newDirectoryStream(Path.of("src/test/java"), "*Test.java")) {
            for (Path file : files) {
                Matcher m = of.matcher(Files.readString(file));
                while (m.find()) {
                    StringBuilder words = new StringBuilder();
                    Matcher one = quoted.matcher(m.group(1));
                    while (one.find()) {
                        words.append(one.group(1));
                    }
                    named.add(words.toString());
                }
            }
        }
        return named;
    }

    /** From the terms to the last promise, all but headings and the face's lines stands in the words over some test. */
    private static void everyWordHasATest() throws IOException {
        String doc = Files.readString(Path.of("../shared/DOC.md"));
        int from = doc.indexOf("## Terms");
        int to = doc.indexOf("## Not promised");
        Check.due("the document has terms and promises", from > 0 && to > from, true);
        String told = doc.substring(from, Math.max(from, to)).replaceAll("(?m)^##.*$", " ").replaceAll("```(text)?", " ")
                .replaceAll("==== [IV]+\\.", " ").replaceAll("`[^`]*`:", " ").replaceAll("\\s+", " ");
        char[] left = told.toCharArray();
        for (String words : named()) {
            for (int at = told.indexOf(words); at >= 0 && !words.isEmpty(); at = told.indexOf(words, at + 1)) {
                java.util.Arrays.fill(left, at, at + words.length(), '_');
            }
        }
        String rest = new String(left).replaceAll("_+", " _ ");
        Check.due("words without a test: " + rest, rest.matches("(?s)[^A-Za-z0-9]*"), true);
    }
}
