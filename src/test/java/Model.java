import java.util.ArrayList;
import java.util.Arrays;
import java.util.HashSet;
import java.util.LinkedHashMap;
import java.util.List;
import java.util.Map;
import java.util.Set;

/**
 * The document's words told once more, the plainest way: trees for laws, long numbers cut down to 32 bits,
 * and every way of sharing, going, roofing and pairing tried out. It is here to be compared with.
 */
final class Model {
    static final Set<String> WORDS = new HashSet<>(Arrays.asList(
            "house", "cools", "warms", "fades", "mends", "coals", "roof", "hail", "seed", "if", "then", "else",
            "panes", "broken", "heat", "kept", "open", "day", "which", "leaves", "burnt"));
    static final Set<String> VARS = new HashSet<>(Arrays.asList(
            "panes", "broken", "heat", "kept", "open", "day", "which", "leaves", "burnt"));

    // ---- texts

    static final class Fault extends Exception {
        final int number;
        final int place;

        Fault(int number, int place) {
            this.number = number;
            this.place = place;
        }
    }

    static final class DividedByNothing extends RuntimeException {
    }

    interface Tree {
        int value(House h, World w);
    }

    static final class If {
        Tree less;
        Tree more;
        Tree so;
    }

    static final class Law {
        final List<If> ifs = new ArrayList<>();
        Tree last;

        int value(House h, World w) {
            try {
                for (If one : ifs) {
                    if (one.less.value(h, w) < one.more.value(h, w)) {
                        return one.so.value(h, w);
                    }
                }
                return last.value(h, w);
            } catch (DividedByNothing e) {
                return 0;
            }
        }
    }

    static final class House implements Cloneable {
        String name;
        int which;
        int panes;
        int broken;
        int heat;
        int kept;
        int x;
        int y;
        int open;
        int leaves;
        int burnt;

        House twin() {
            try {
                return (House) clone();
            } catch (CloneNotSupportedException e) {
                throw new IllegalStateException(e);
            }
        }
    }

    static final class World {
        final List<House> houses = new ArrayList<>();
        int day;
        int coals = 20;
        int burntSoFar;
        int cuttings;

        World twin() {
            World w = new World();
            for (House h : houses) {
                w.houses.add(h.twin());
            }
            w.day = day;
            w.coals = coals;
            w.burntSoFar = burntSoFar;
            w.cuttings = cuttings;
            return w;
        }
    }

    /** A text while it is read. */
    static final class Text {
        final String s;
        int at;
        int tokens;
        String token = "";
        int tokenAt;
        char sort;
        final World world = new World();
        final Map<String, Law> laws = new LinkedHashMap<>();
        int roof = 20;
        int hail = 0;
        int seed = 0;
        Fault second;

        Text(String s) throws Fault {
            this.s = s;
            look();
            while (sort != 'e') {
                tell();
            }
            if (second != null) {
                throw second;
            }
        }

        /** sort: e end, n name, w word, i int, s sign, x none. */
        void look() {
            while (at < s.length() && "\t\n\r ".indexOf(s.charAt(at)) >= 0) {
                at++;
            }
            tokenAt = at;
            if (at == s.length()) {
                sort = 'e';
                token = "";
                return;
            }
            String rest = s.substring(at);
            String letters = rest.replaceAll("(?s)^([a-z]*).*$", "$1");
            String digits = rest.replaceAll("(?s)^([0-9]*).*$", "$1");
            if (!letters.isEmpty()) {
                token = letters;
                sort = letters.length() > 8 ? 'x' : WORDS.contains(letters) ? 'w' : 'n';
            } else if (!digits.isEmpty()) {
                token = digits;
                sort = digits.length() > 4 ? 'x' : 'i';
            } else {
                token = rest.substring(0, 1);
                sort = ";=+-*/<()".contains(token) ? 's' : 'x';
            }
        }

        boolean is(String t) {
            return (sort == 's' || sort == 'w') && token.equals(t);
        }

        String pass(boolean fits) throws Fault {
            if (!fits) {
                throw new Fault(1, tokenAt);
            }
            if (++tokens > 400) {
                throw new Fault(2, tokenAt);
            }
            String t = token;
            at = tokenAt + token.length();
            look();
            return t;
        }

        void pass(String t) throws Fault {
            pass(is(t));
        }

        int number(int least, int most) throws Fault {
            int place = tokenAt;
            int n = Integer.parseInt(pass(sort == 'i'));
            if ((n < least || n > most) && second == null) {
                second = new Fault(5, place);
            }
            return n;
        }

        void tell() throws Fault {
            if (is("house")) {
                tellHouse();
            } else if (is("cools") || is("warms") || is("fades") || is("mends")) {
                String which = pass(true);
                Law law = law();
                laws.put(which, law);
            } else if (is("coals")) {
                pass("coals");
                world.coals = number(0, 999);
            } else if (is("roof")) {
                pass("roof");
                roof = number(1, 99);
            } else if (is("hail")) {
                pass("hail");
                hail = number(0, 100);
            } else if (is("seed")) {
                pass("seed");
                seed = number(0, 9999);
            } else {
                throw new Fault(1, tokenAt);
            }
            pass(";");
        }

        void tellHouse() throws Fault {
            if (world.houses.size() == 6) {
                throw new Fault(2, tokenAt);
            }
            pass("house");
            House h = new House();
            int place = tokenAt;
            h.name = pass(sort == 'n');
            for (House other : world.houses) {
                if (other.name.equals(h.name) && second == null) {
                    second = new Fault(3, place);
                }
            }
            h.which = world.houses.size();
            h.panes = number(1, 20);
            h.heat = number(0, 99);
            h.kept = number(0, 999);
            h.x = number(0, 99);
            h.y = number(0, 99);
            world.houses.add(h);
        }

        Law law() throws Fault {
            Law law = new Law();
            pass("=");
            while (is("if")) {
                if (law.ifs.size() == 4) {
                    throw new Fault(2, tokenAt);
                }
                If one = new If();
                pass("if");
                one.less = e(0);
                pass("<");
                one.more = e(0);
                pass("then");
                one.so = e(0);
                pass("else");
                law.ifs.add(one);
            }
            law.last = e(0);
            return law;
        }

        Tree e(int open) throws Fault {
            Tree t = part(open);
            while (is("+") || is("-")) {
                boolean plus = pass(true).equals("+");
                Tree a = t;
                Tree b = part(open);
                t = (h, w) -> (int) (plus ? (long) a.value(h, w) + b.value(h, w) : (long) a.value(h, w) - b.value(h, w));
            }
            return t;
        }

        Tree part(int open) throws Fault {
            Tree t = unit(open);
            while (is("*") || is("/")) {
                boolean times = pass(true).equals("*");
                Tree a = t;
                Tree b = unit(open);
                t = (h, w) -> {
                    long left = a.value(h, w);
                    long right = b.value(h, w);
                    if (!times && right == 0) {
                        throw new DividedByNothing();
                    }
                    return (int) (times ? left * right : left / right);
                };
            }
            return t;
        }

        Tree unit(int open) throws Fault {
            if (is("(")) {
                if (open == 6) {
                    throw new Fault(2, tokenAt);
                }
                pass("(");
                Tree t = e(open + 1);
                pass(")");
                return t;
            }
            if (sort == 'i') {
                int n = Integer.parseInt(pass(true));
                return (h, w) -> n;
            }
            String var = pass(sort == 'w' && VARS.contains(token));
            return (h, w) -> variable(var, h, w);
        }

        static int variable(String var, House h, World w) {
            switch (var) {
                case "panes": return h.panes;
                case "broken": return h.broken;
                case "heat": return h.heat;
                case "kept": return h.kept;
                case "open": return h.open;
                case "day": return w.day;
                case "which": return h.which;
                case "leaves": return h.leaves;
                case "burnt": return h.burnt;
                default: throw new IllegalStateException(var);
            }
        }
    }

    // ---- what goes on

    private final StringBuilder tape = new StringBuilder();
    private int place = -1;
    private World w = new World();
    private Map<String, Law> laws = new LinkedHashMap<>();
    private int roof = 20;
    private int hail = 0;
    private int seed = 0;
    private final List<World> past = new ArrayList<>();
    private final World[] slots = new World[3];
    private final List<int[]> told = new ArrayList<>();

    int feed(int a, int b, int c, int d, int e) {
        if (tape.length() + 20 > 2000) {
            return -1;
        }
        for (int word : new int[] {a, b, c, d, e}) {
            for (int i = 3; i >= 0; i--) {
                tape.append((char) (word >> 8 * i & 255));
            }
        }
        return tape.length();
    }

    int back(int n) {
        if (n < 0 || n > tape.length()) {
            return -1;
        }
        tape.setLength(tape.length() - n);
        return tape.length();
    }

    int read() {
        String s = tape.toString();
        tape.setLength(0);
        try {
            Text t = new Text(s);
            w = t.world;
            laws = t.laws;
            roof = t.roof;
            hail = t.hail;
            seed = t.seed;
            past.clear();
            told.clear();
            Arrays.fill(slots, null);
            place = -1;
            return 0;
        } catch (Fault f) {
            place = f.place;
            return f.number;
        }
    }

    int place() {
        return place;
    }

    private int clamp(int v, int most) {
        return v < 0 ? 0 : v > most ? most : v;
    }

    private int cools(World in, House h) {
        Law law = laws.get("cools");
        return clamp(law == null ? h.broken + 1 : law.value(h, in), 99);
    }

    private int warms(World in, House h) {
        Law law = laws.get("warms");
        return clamp(law == null ? 5 : law.value(h, in), 99);
    }

    private int mends(World in, House h) {
        Law law = laws.get("mends");
        return clamp(law == null ? 1 : law.value(h, in), 99);
    }

    private int fades(World in, House h) {
        Law law = laws.get("fades");
        return clamp(law == null ? 1 : law.value(h, in), h.kept);
    }

    private static long u32(long v) {
        return v & 0xffffffffL;
    }

    static int lot(int n, int seed, int which) {
        long h = u32(seed);
        for (long it : new long[] {177, u32(which)}) {
            h = u32((h ^ it) * 1103515245L + 12345L);
            h = h ^ h / 32768;
        }
        return (int) (h / 2 % n);
    }

    private boolean hailOn(int bySeed, int day) {
        return lot(100, bySeed, 4 * day) < hail;
    }

    private void burnIn(World in, House h, int n) {
        for (int i = 0; i < n; i++) {
            h.heat = Math.min(999, h.heat + warms(in, h));
            in.coals--;
            h.burnt++;
            in.burntSoFar++;
        }
    }

    private void pass(World in, boolean withHail, int bySeed) {
        World began = in.twin();
        for (House h : in.houses) {
            House was = began.houses.get(h.which);
            h.kept -= fades(began, was);
            h.heat = Math.max(0, h.heat - cools(began, was) * (was.open == 1 ? 2 : 1));
        }
        if (withHail && hailOn(bySeed, in.day) && !in.houses.isEmpty()) {
            House h = in.houses.get(lot(in.houses.size(), bySeed, 4 * in.day + 1));
            if (h.broken < h.panes) {
                h.broken++;
            }
        }
        for (House h : in.houses) {
            h.burnt = 0;
        }
        in.day++;
    }

    private boolean is(int house) {
        return house >= 0 && house < w.houses.size();
    }

    private void remember() {
        past.add(w.twin());
        if (past.size() > 40) {
            past.remove(0);
        }
    }

    int house(int house, int what) {
        if (!is(house) || what < 0 || what > 12) {
            return -1;
        }
        House h = w.houses.get(house);
        return new int[] {h.panes, h.broken, h.heat, h.kept, h.open, h.leaves, h.burnt,
            cools(w, h), warms(w, h), fades(w, h), mends(w, h), h.x, h.y}[what];
    }

    int burn(int house, int n) {
        if (!is(house) || n < 1 || n > 99 || w.coals < n) {
            return -1;
        }
        remember();
        burnIn(w, w.houses.get(house), n);
        return w.houses.get(house).heat;
    }

    boolean door(int house, boolean open) {
        if (!is(house) || w.houses.get(house).open == 1 == open) {
            return false;
        }
        remember();
        w.houses.get(house).open = open ? 1 : 0;
        return true;
    }

    int mend(int house) {
        if (!is(house)) {
            return -1;
        }
        House h = w.houses.get(house);
        int cost = mends(w, h);
        if (h.broken == 0 || cost > w.coals) {
            return -1;
        }
        remember();
        w.coals -= cost;
        h.broken--;
        return cost;
    }

    int cut(int house, int other) {
        if (!is(house) || !is(other) || house == other) {
            return -1;
        }
        remember();
        House a = w.houses.get(house);
        House b = w.houses.get(other);
        int much = a.kept / 10;
        a.kept -= much;
        b.kept = Math.min(999, b.kept + much);
        b.leaves++;
        w.cuttings++;
        return much;
    }

    int bring(int n) {
        if (n < 1 || n > 99) {
            return -1;
        }
        remember();
        w.coals = Math.min(9999, w.coals + n);
        return w.coals;
    }

    int days(int n) {
        if (n < 0 || n > 60) {
            return -1;
        }
        if (n != 0) {
            remember();
        }
        for (int i = 0; i < n; i++) {
            pass(w, true, seed);
        }
        return w.day;
    }

    boolean undo() {
        if (past.isEmpty()) {
            return false;
        }
        w = past.remove(past.size() - 1);
        return true;
    }

    // ---- what would be

    private int lossOf(World in, int house, int n) {
        World t = in.twin();
        House h = t.houses.get(house);
        burnIn(t, h, n);
        return fades(t, h);
    }

    int loss(int house, int n) {
        return !is(house) || n < 0 || n > 30 ? -1 : lossOf(w, house, n);
    }

    /** All ways to give out at most n, by the fewest in the first ones: the first of the best is kept. */
    private int[] shareOf(World in, int n) {
        int houses = in.houses.size();
        int[][] table = new int[houses][n + 1];
        for (int h = 0; h < houses; h++) {
            for (int k = 0; k <= n; k++) {
                table[h][k] = lossOf(in, h, k);
            }
        }
        int[] best = new int[houses + 1];
        best[houses] = Integer.MAX_VALUE;
        tryShares(table, new int[houses], 0, n, 0, best);
        return best;
    }

    private void tryShares(int[][] table, int[] given, int h, int left, int sum, int[] best) {
        if (h == given.length) {
            if (sum < best[h]) {
                System.arraycopy(given, 0, best, 0, h);
                best[h] = sum;
            }
            return;
        }
        for (int k = 0; k <= left; k++) {
            given[h] = k;
            tryShares(table, given, h + 1, left - k, sum + table[h][k], best);
        }
    }

    int share(int n, int i) {
        if (n < 0 || n > 30 || i != -1 && !is(i)) {
            return -1;
        }
        int[] best = shareOf(w, n);
        return i == -1 ? best[w.houses.size()] : best[i];
    }

    private int needOf(World in, int house) {
        for (int n = 0; n <= 30; n++) {
            if (lossOf(in, house, n) == 0) {
                return n;
            }
        }
        return -1;
    }

    int enough() {
        int sum = 0;
        for (House h : w.houses) {
            int need = needOf(w, h.which);
            if (need < 0) {
                return -2;
            }
            sum += need;
        }
        return sum;
    }

    private World dayWith(World in, int n) {
        World t = in.twin();
        int[] given = shareOf(t, n);
        for (House h : t.houses) {
            burnIn(t, h, given[h.which]);
        }
        pass(t, false, 0);
        return t;
    }

    private static int keptIn(World in) {
        int sum = 0;
        for (House h : in.houses) {
            sum += h.kept;
        }
        return sum;
    }

    int plan(int n, int what) {
        if (n < 0 || n > 10 || what < 0 || what > 2) {
            return -1;
        }
        int[] best = {-1, -1, -1};
        for (int a = 0; a <= n; a++) {
            World one = dayWith(w, a);
            for (int b = 0; a + b <= n; b++) {
                int kept = keptIn(dayWith(dayWith(one, b), n - a - b));
                if (kept > best[0]) {
                    best = new int[] {kept, a, b};
                }
            }
        }
        return best[what];
    }

    int worst(int what) {
        if (what < 0 || what > 1) {
            return -1;
        }
        int best = -2;
        for (House h : w.houses) {
            if (best < 0 || fades(w, h) > fades(w, w.houses.get(best))) {
                best = h.which;
            }
        }
        return best < 0 ? -2 : what == 0 ? best : fades(w, w.houses.get(best));
    }

    int lasts() {
        World t = w.twin();
        int d = 0;
        while (d < 60) {
            for (House h : t.houses) {
                int need = needOf(t, h.which);
                if (need > t.coals) {
                    return d;
                }
                burnIn(t, h, need);
            }
            pass(t, false, 0);
            d++;
        }
        return d;
    }

    int gone(int house) {
        if (!is(house)) {
            return -1;
        }
        World t = w.twin();
        int d = 0;
        while (t.houses.get(house).kept > 0) {
            if (++d > 200) {
                return -2;
            }
            pass(t, false, 0);
        }
        return d;
    }

    int cold(int house) {
        if (!is(house)) {
            return -1;
        }
        World t = w.twin();
        int d = 0;
        while (t.houses.get(house).heat > 0) {
            if (++d > 200) {
                return -2;
            }
            pass(t, false, 0);
        }
        return d;
    }

    int far(int house, int other) {
        if (!is(house) || !is(other)) {
            return -1;
        }
        House a = w.houses.get(house);
        House b = w.houses.get(other);
        return Math.abs(a.x - b.x) + Math.abs(a.y - b.y);
    }

    private List<int[]> waysFrom(int house) {
        List<int[]> ways = new ArrayList<>();
        int n = w.houses.size();
        int all = (int) Math.pow(n, n);
        for (int code = 0; code < all; code++) {
            int[] way = new int[n];
            int rest = code;
            int seen = 0;
            for (int i = n - 1; i >= 0; i--) {
                way[i] = rest % n;
                rest /= n;
                seen |= 1 << way[i];
            }
            if (way[0] == house && seen == (1 << n) - 1) {
                ways.add(way);
            }
        }
        return ways;
    }

    private int lengthOf(int[] way) {
        int sum = 0;
        for (int i = 1; i < way.length; i++) {
            sum += far(way[i - 1], way[i]);
        }
        return sum;
    }

    private int[] bestWay(int house) {
        int[] best = null;
        for (int[] way : waysFrom(house)) {
            if (best == null || lengthOf(way) < lengthOf(best)) {
                best = way;
            }
        }
        return best;
    }

    int round(int house) {
        return is(house) ? lengthOf(bestWay(house)) : -1;
    }

    int next(int house, int i) {
        return is(house) && i >= 0 && i < w.houses.size() ? bestWay(house)[i] : -1;
    }

    /** Kruskal's way: the shortest pipe that joins two parts, over and over. */
    int pipes() {
        int n = w.houses.size();
        int[] part = new int[n];
        for (int i = 0; i < n; i++) {
            part[i] = i;
        }
        int sum = 0;
        for (int d = 0; d <= 198; d++) {
            for (int a = 0; a < n; a++) {
                for (int b = 0; b < a; b++) {
                    if (far(a, b) == d && part[a] != part[b]) {
                        sum += d;
                        int old = part[a];
                        for (int i = 0; i < n; i++) {
                            part[i] = part[i] == old ? part[b] : part[i];
                        }
                    }
                }
            }
        }
        return sum;
    }

    int nearest(int house) {
        if (!is(house)) {
            return -1;
        }
        int best = -2;
        for (int h = 0; h < w.houses.size(); h++) {
            if (h != house && (best < 0 || far(house, h) < far(house, best))) {
                best = h;
            }
        }
        return best;
    }

    int saves(int house) {
        return is(house) ? lossOf(w, house, 0) - lossOf(w, house, 1) : -100000;
    }

    int first() {
        int best = -2;
        for (int h = 0; h < w.houses.size(); h++) {
            if (best < 0 || saves(h) > saves(best)) {
                best = h;
            }
        }
        return best;
    }

    private int apart(int a, int b) {
        return Math.abs(w.houses.get(a).kept - w.houses.get(b).kept);
    }

    int twins(int what) {
        if (what < 0 || what > 1) {
            return -1;
        }
        int[] best = null;
        for (int a = 0; a < w.houses.size(); a++) {
            for (int b = a + 1; b < w.houses.size(); b++) {
                if (best == null || apart(a, b) < best[1]) {
                    best = new int[] {10 * a + b, apart(a, b)};
                }
            }
        }
        return best == null ? -2 : best[what];
    }

    int draughty(int what) {
        if (what < 0 || what > 1) {
            return -1;
        }
        int[] best = null;
        for (House h : w.houses) {
            int much = cools(w, h) + (h.open == 1 ? cools(w, h) : 0);
            if (best == null || much > best[1]) {
                best = new int[] {h.which, much};
            }
        }
        return best == null ? -2 : best[what];
    }

    int roofs(int i) {
        int n = w.houses.size();
        if (i != -1 && !is(i)) {
            return -1;
        }
        int[] best = null;
        int all = (int) Math.pow(n, n);
        for (int code = 0; code < all; code++) {
            int[] over = new int[n];
            int rest = code;
            for (int h = n - 1; h >= 0; h--) {
                over[h] = rest % n;
                rest /= n;
            }
            if (roofsAreGood(over) && (best == null || used(over) < used(best))) {
                best = over;
            }
        }
        return best == null ? -2 : i == -1 ? used(best) : best[i];
    }

    private static int used(int[] over) {
        int most = 0;
        for (int r : over) {
            most = Math.max(most, r + 1);
        }
        return most;
    }

    private boolean roofsAreGood(int[] over) {
        int next = 0;
        int[] panes = new int[over.length];
        for (int h = 0; h < over.length; h++) {
            if (over[h] > next) {
                return false;
            }
            next = Math.max(next, over[h] + 1);
            panes[over[h]] += w.houses.get(h).panes;
            if (panes[over[h]] > roof) {
                return false;
            }
        }
        return true;
    }

    /** Partners are written from 0 to n, n for nothing, so that the first of the alike ones comes first. */
    int paired(int i) {
        int n = w.houses.size();
        if (i != -1 && !is(i)) {
            return -1;
        }
        int[] best = null;
        int least = 0;
        int all = (int) Math.pow(n + 1, n);
        for (int code = 0; code < all; code++) {
            int[] with = new int[n];
            int rest = code;
            for (int h = n - 1; h >= 0; h--) {
                with[h] = rest % (n + 1);
                rest /= n + 1;
            }
            int alone = 0;
            int sum = 0;
            boolean good = true;
            for (int h = 0; h < n && good; h++) {
                alone += with[h] == n ? 1 : 0;
                good = with[h] == n || with[h] != h && with[with[h]] == h;
                sum += good && with[h] < h ? apart(h, with[h]) : 0;
            }
            if (good && alone == n % 2 && (best == null || sum < least)) {
                best = with;
                least = sum;
            }
        }
        return i == -1 ? least : best[i] == n ? -2 : best[i];
    }

    int summers(int v) {
        if (v < 1 || v > 999) {
            return -1;
        }
        return (int) w.houses.stream().filter(h -> h.kept >= v).count();
    }

    int then(int house, int n, int what) {
        if (!is(house) || n < 0 || n > 60 || what < 0 || what > 2) {
            return -1;
        }
        World t = w.twin();
        for (int i = 0; i < n; i++) {
            pass(t, true, seed);
        }
        House h = t.houses.get(house);
        return what == 0 ? h.heat : what == 1 ? h.kept : h.broken;
    }

    int year(int house, int n, int s) {
        if (!is(house) || n < 0 || n > 60 || s < 1 || s > 20) {
            return -1;
        }
        int number = 0;
        for (int i = 0; i < s; i++) {
            World t = w.twin();
            for (int d = 0; d < n; d++) {
                pass(t, true, seed + i);
            }
            number += t.houses.get(house).kept > 0 ? 1 : 0;
        }
        return number;
    }

    // ---- whose house it was

    int tell(int mark, int v, boolean so) {
        if (told.size() == 20 || mark < 0 || mark > 3 || v < 0 || v > 999) {
            return -1;
        }
        told.add(new int[] {mark, v, so ? 1 : 0});
        return told.size() - 1;
    }

    int forget() {
        int n = told.size();
        told.clear();
        return n;
    }

    private static boolean so(House h, int mark, int v) {
        return new int[] {h.panes, h.heat, h.kept, h.broken}[mark] >= v;
    }

    private List<House> left(int k) {
        List<House> left = new ArrayList<>(w.houses);
        for (int[] t : told.subList(0, k)) {
            left.removeIf(h -> so(h, t[0], t[1]) != (t[2] == 1));
        }
        return left;
    }

    int whose(int k, int what) {
        if (k < 0 || k > told.size() || what < 0 || what > 1) {
            return -1;
        }
        int bits = 0;
        for (House h : left(k)) {
            bits += 1 << h.which;
        }
        return what == 0 ? left(k).size() : bits;
    }

    int look(int k, int v) {
        if (k < 0 || k > told.size() || v < 0 || v > 999) {
            return -1;
        }
        List<House> left = left(k);
        if (left.isEmpty()) {
            return -2;
        }
        int best = -1;
        int fewest = 7;
        for (int m = 0; m < 4; m++) {
            int mark = m;
            int yes = (int) left.stream().filter(h -> so(h, mark, v)).count();
            int no = (int) left.stream().filter(h -> !so(h, mark, v)).count();
            if (Math.max(yes, no) < fewest) {
                fewest = Math.max(yes, no);
                best = m;
            }
        }
        return best;
    }

    boolean hold(int slot) {
        if (slot < 0 || slot > 2) {
            return false;
        }
        slots[slot] = w.twin();
        return true;
    }

    boolean restore(int slot) {
        if (slot < 0 || slot > 2 || slots[slot] == null) {
            return false;
        }
        w = slots[slot].twin();
        past.clear();
        return true;
    }

    int count(int what) {
        int kept = 0;
        int heat = 0;
        int broken = 0;
        int open = 0;
        int empty = 0;
        int losses = 0;
        int panes = 0;
        int cold = 0;
        int burnt = 0;
        for (House h : w.houses) {
            kept += h.kept;
            heat += h.heat;
            broken += h.broken;
            open += h.open << h.which;
            empty += (h.kept == 0 ? 1 : 0) << h.which;
            losses += fades(w, h);
            panes += h.panes;
            cold += (h.heat == 0 ? 1 : 0) << h.which;
            burnt += h.burnt;
        }
        int held = 0;
        for (World slot : slots) {
            held += slot == null ? 0 : 1;
        }
        int[] all = {w.houses.size(), w.day, w.coals, kept, heat, broken, open, empty, tape.length(), past.size(),
            told.size(), held, hailOn(seed, w.day) ? 1 : 0, losses, w.burntSoFar, panes, w.cuttings, cold, roof, burnt};
        return what < 0 || what >= all.length ? -1 : all[what];
    }
}
