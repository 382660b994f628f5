import java.lang.reflect.Method;
import java.util.ArrayList;
import java.util.Arrays;
import java.util.HashMap;
import java.util.List;
import java.util.Map;
import java.util.Random;

/** Runs of random calls on random texts: SummerHouses and the Model must answer alike. */
public final class ModelTest {
    private static final int RUNS = 1200;
    private static final String[] LAWS = {"cools", "warms", "fades", "mends"};
    private static final String[] VARS = {"panes", "broken", "heat", "kept", "open", "day", "which", "leaves", "burnt"};
    private static final String[] BLANKS = {" ", "  ", "\n", "\t", "\r\n"};
    private static final String[] SCRAPS = {
        ";", "=", "+", "-", "*", "/", "<", "(", ")", ".", "A", "\u0000", "\u00e9", "if", "then", "else", "house",
        "x", "0", "12345", "abcdefgh", "abcdefghi", "panes", "roof 0;", "seed 9999;", "hail 101;", "coals 1000;", "_", "!"};

    private final Random random;
    private final SummerHouses real = new SummerHouses();
    private final Model model = new Model();
    private final List<String> calls = new ArrayList<>();
    private final int run;
    private static final Map<String, Method[]> METHODS = new HashMap<>();

    private ModelTest(int run) {
        this.run = run;
        random = new Random(7919L * run + 13);
    }

    public static void main(String[] args) throws Exception {
        for (Method m : SummerHouses.class.getDeclaredMethods()) {
            if (java.lang.reflect.Modifier.isPublic(m.getModifiers())) {
                Method other = Model.class.getDeclaredMethod(m.getName(), m.getParameterTypes());
                METHODS.put(m.getName(), new Method[] {m, other});
            }
        }
        int runs = args.length > 0 ? Integer.parseInt(args[0]) : RUNS;
        int from = args.length > 1 ? Integer.parseInt(args[1]) : 0;
        for (int i = from; i < from + runs && !Check.anyWrong(); i++) {
            new ModelTest(i).go();
        }
        Check.end("ModelTest");
    }

    private void go() throws Exception {
        readText();
        int asked = 0;
        while (asked < 150 && !Check.anyWrong()) {
            step();
            asked++;
        }
    }

    private boolean chance(int percent) {
        return random.nextInt(100) < percent;
    }

    private int upTo(int most) {
        return random.nextInt(most + 1);
    }

    /** Mostly from least to most, now and then beside it. */
    private int about(int least, int most) {
        if (chance(4)) {
            int[] odd = {least - 1, most + 1, -1, Integer.MIN_VALUE, Integer.MAX_VALUE, -2, 1 << 30};
            return odd[random.nextInt(odd.length)];
        }
        return least + random.nextInt(most - least + 1);
    }

    private int aHouse() {
        int houses = model.count(0);
        return chance(5) || houses == 0 ? about(0, 6) : random.nextInt(houses);
    }

    private void call(String name, Object... args) throws Exception {
        Method[] both = METHODS.get(name);
        String told = name + Arrays.toString(args);
        calls.add(told);
        Object got = both[0].invoke(real, args);
        Object want = both[1].invoke(model, args);
        if (!got.equals(want)) {
            calls.forEach(c -> System.out.println("  " + c));
        }
        if (got instanceof Boolean) {
            Check.due("run " + run + " " + told, (Boolean) got, (Boolean) want);
        } else {
            Check.due("run " + run + " " + told, (Integer) got, (Integer) want);
        }
    }

    private void feedText(String text) throws Exception {
        calls.add("text: " + text);
        for (int from = 0; from < text.length(); from += 20) {
            int[] v = new int[5];
            for (int i = 0; i < 20; i++) {
                v[i / 4] = v[i / 4] << 8 | (from + i < text.length() ? text.charAt(from + i) & 255 : 32);
            }
            call("feed", v[0], v[1], v[2], v[3], v[4]);
        }
        call("back", (20 - text.length() % 20) % 20);
    }

    private void readText() throws Exception {
        call("back", model.count(8));
        String text = chance(12) ? bigText() : someText();
        for (int i = 0; i < 3 && chance(20); i++) {
            text = spoilt(text);
        }
        feedText(text.length() > 2000 ? text.substring(0, 2000) : text);
        call("read");
        call("place");
        for (int what = 0; what < 20; what++) {
            call("count", what);
        }
    }

    // ---- texts

    private String blank() {
        return BLANKS[random.nextInt(BLANKS.length)];
    }

    private String someText() {
        List<String> tells = new ArrayList<>();
        int houses = chance(10) ? upTo(7) : 1 + upTo(5);
        boolean alike = chance(30);
        for (int h = 0; h < houses; h++) {
            String name = chance(2) ? "a" : String.valueOf((char) ('a' + h)) + (chance(30) ? "xyzuvwt" : "");
            int kept = alike ? 10 * upTo(5) : chance(30) ? upTo(999) : upTo(120);
            int heat = chance(20) ? upTo(99) : upTo(25);
            int place = alike ? 3 : 99;
            tells.add("house " + name + " " + (1 + upTo(chance(20) ? 20 : 19)) + " " + heat + " " + kept + " "
                    + upTo(place) + " " + upTo(place) + ";");
        }
        for (String law : LAWS) {
            if (chance(65)) {
                tells.add(law + "=" + (chance(50) ? goodLaw(law) : law(chance(5) ? 6 : 2)) + ";");
            }
        }
        if (chance(60)) {
            tells.add("coals " + (chance(5) ? upTo(1001) : chance(50) ? upTo(99) : upTo(999)) + ";");
        }
        if (chance(60)) {
            tells.add("roof " + (chance(5) ? upTo(101) : 15 + upTo(30)) + ";");
        }
        if (chance(70)) {
            tells.add("hail " + upTo(100) + ";");
        }
        if (chance(70)) {
            tells.add("seed " + upTo(9999) + ";");
        }
        StringBuilder text = new StringBuilder();
        while (!tells.isEmpty()) {
            text.append(tells.remove(random.nextInt(tells.size())));
            text.append(chance(60) ? blank() : "");
        }
        return text.toString();
    }

    /** Laws as people would tell them, so that coals help and summers fade by and by. */
    private String goodLaw(String law) {
        int n = 1 + upTo(20);
        switch (law) {
            case "cools":
                return chance(50) ? "1+broken*" + upTo(3) + "+heat/" + n : "if day-day/7*7<3 then " + n + " else heat/3";
            case "warms":
                return chance(50) ? "" + (1 + upTo(6)) : (3 + upTo(8)) + "-burnt+open";
            case "fades":
                return chance(50) ? "if heat<" + n + " then (" + n + "-heat)/" + (1 + upTo(3)) + " else " + (chance(80) ? 0 : 1)
                        : "if heat<" + n + "+which*2 then " + n + "+broken else if kept<" + upTo(50) + " then 1 else " + n + "-" + n;
            default:
                return "broken*" + upTo(4) + "+" + upTo(9);
        }
    }

    private String law(int mostIfs) {
        StringBuilder s = new StringBuilder();
        int ifs = upTo(mostIfs);
        for (int i = 0; i < ifs; i++) {
            s.append("if ").append(sum(2)).append(" <").append(sum(2)).append(" then ").append(sum(2)).append(" else ");
        }
        return s.append(sum(3)).toString();
    }

    private String sum(int deep) {
        StringBuilder s = new StringBuilder(product(deep));
        while (chance(35)) {
            s.append(chance(50) ? " + " : "-").append(product(deep));
        }
        return s.toString();
    }

    private String product(int deep) {
        StringBuilder s = new StringBuilder(unit(deep));
        while (chance(30)) {
            s.append(chance(50) ? "*" : " /").append(unit(deep));
        }
        return s.toString();
    }

    private String unit(int deep) {
        if (deep > 0 && chance(25)) {
            return "(" + sum(deep - 1) + ")";
        }
        if (chance(40)) {
            return " " + (chance(80) ? upTo(9) : upTo(9999));
        }
        return " " + VARS[random.nextInt(VARS.length)] + " ";
    }

    /** Near the most that a text may have: tokens, brackets, ifs, houses. */
    private String bigText() {
        StringBuilder s = new StringBuilder();
        int kind = random.nextInt(4);
        if (kind == 0) {
            int tokens = 396 + upTo(8);
            s.append("fades=1");
            for (int i = 3; i + 2 < tokens; i += 2) {
                s.append(chance(50) ? "+" : "*").append(1 + upTo(8));
            }
            s.append(chance(80) ? ";" : "").append(chance(50) ? blank() : "");
        } else if (kind == 1) {
            int deep = 5 + upTo(3);
            s.append("cools=").append("(".repeat(deep)).append("heat").append(")".repeat(chance(80) ? deep : deep - 1)).append(";");
        } else if (kind == 2) {
            s.append("warms=");
            int ifs = 3 + upTo(3);
            for (int i = 0; i < ifs; i++) {
                s.append("if heat<").append(i * 5).append(" then ").append(upTo(9)).append(" else ");
            }
            s.append("2;");
        } else {
            int houses = 5 + upTo(3);
            for (int i = 0; i < houses; i++) {
                s.append("house ").append((char) ('b' + i)).append(" 3 ").append(upTo(100)).append(" 5 1 1;");
            }
        }
        return chance(50) ? s + someText() : someText() + s;
    }

    private String spoilt(String text) {
        int at = upTo(text.length());
        if (chance(30) && at < text.length()) {
            return text.substring(0, at) + text.substring(at + 1);
        }
        if (chance(20)) {
            return text.substring(0, at);
        }
        return text.substring(0, at) + SCRAPS[random.nextInt(SCRAPS.length)] + text.substring(at);
    }

    // ---- calls

    private void step() throws Exception {
        int kind = random.nextInt(100);
        if (kind < 2) {
            readText();
        } else if (kind < 45) {
            doSomething();
        } else {
            askSomething();
        }
    }

    private void doSomething() throws Exception {
        switch (random.nextInt(14)) {
            case 0: case 1:
                call("burn", aHouse(), chance(80) ? about(1, 5) : about(1, 99));
                break;
            case 2:
                call("door", aHouse(), random.nextBoolean());
                break;
            case 3:
                call("mend", aHouse());
                break;
            case 4: case 5:
                call("cut", aHouse(), aHouse());
                break;
            case 6:
                call("bring", about(1, 99));
                break;
            case 7: case 8:
                call("days", chance(85) ? about(0, 3) : about(0, 60));
                break;
            case 9:
                int times = chance(10) ? 45 : 1;
                for (int i = 0; i < times; i++) {
                    call("undo");
                }
                break;
            case 10:
                call("tell", about(0, 3), chance(70) ? about(0, 30) : about(0, 999), random.nextBoolean());
                break;
            case 11:
                call(chance(20) ? "forget" : "lasts");
                break;
            case 12:
                call("hold", about(0, 2));
                break;
            default:
                call(chance(40) ? "restore" : "hold", about(0, 2));
                break;
        }
    }

    private void askSomething() throws Exception {
        int n = model.count(0);
        // The model tries every way of sharing, so with many houses it is asked for fewer coals.
        int shared = n > 5 ? 10 : n > 4 ? 15 : 30;
        int few = n > 4 ? 4 : n > 3 ? 8 : 10;
        switch (random.nextInt(28)) {
            case 0: call("loss", aHouse(), about(0, 30)); break;
            case 1: case 2: call("share", upTo(shared), chance(30) ? -1 : aHouse()); break;
            case 3: call("enough"); break;
            case 4: if (chance(30)) { call("plan", Math.min(few, upTo(10)), about(0, 2)); } break;
            case 5: call("worst", about(0, 1)); break;
            case 6: call("lasts"); break;
            case 7: call("gone", aHouse()); break;
            case 8: call("cold", aHouse()); break;
            case 9: call("far", aHouse(), aHouse()); break;
            case 10: if (chance(20)) { call("round", aHouse()); } break;
            case 11: if (chance(20)) { call("next", aHouse(), about(0, 5)); } break;
            case 12: call("pipes"); break;
            case 13: call("nearest", aHouse()); break;
            case 14: call("saves", aHouse()); break;
            case 15: call("first"); break;
            case 16: call("twins", about(0, 1)); break;
            case 17: call("draughty", about(0, 1)); break;
            case 18: if (chance(20)) { call("roofs", chance(30) ? -1 : aHouse()); } break;
            case 19: if (chance(20)) { call("paired", chance(30) ? -1 : aHouse()); } break;
            case 20: call("summers", about(1, 999)); break;
            case 21: call("then", aHouse(), about(0, 60), about(0, 2)); break;
            case 22: call("year", aHouse(), about(0, 60), about(1, 20)); break;
            case 23: call("whose", about(0, Math.max(1, model.count(10))), about(0, 1)); break;
            case 24: call("look", about(0, Math.max(1, model.count(10))), chance(50) ? about(0, 25) : about(0, 999)); break;
            case 25: call("house", aHouse(), about(0, 12)); break;
            case 26: call("share", about(0, 3), chance(30) ? -1 : aHouse()); break;
            default: call("count", about(0, 19)); break;
        }
    }
}
