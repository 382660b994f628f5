import java.util.Random;

/**
 * Promises 14 to 39 by way of other calls, on many texts: what would be is what is once it is done, and the best of
 * shares, ways, pipes, roofs and pairs is the best of all that can be tried.
 */
public final class WouldBeTest {
    private static final int NONE = Edge.NONE;
    private static final int NOT = -2;
    private static final int TEXTS = 40;
    /** An object is promised to answer so often; what is done by way of it stays below. */
    private static final int MOST_CALLS = 512;
    private static final int[] WHAT_OF_MARK = {0, 2, 3, 1};

    public static void main(String[] args) {
        shares();
        enough();
        plans();
        worstFirstSaves();
        lasts();
        goneAndCold();
        nearestTwinsDraughty();
        rounds();
        pipes();
        roofs();
        paired();
        summers();
        inDays();
        years();
        whose();
        look();
        noHail();
        Edge.end("WouldBeTest", 14, 39);
    }

    // ---- texts and objects

    private static String text(int t, int mostHouses, boolean brokenGlass) {
        Random r = new Random(97L * t + mostHouses);
        int houses = 1 + r.nextInt(mostHouses);
        boolean alike = r.nextInt(3) == 0;
        StringBuilder s = new StringBuilder();
        for (int h = 0; h < houses; h++) {
            int kept = alike ? 20 * r.nextInt(4) : r.nextInt(200);
            int place = alike ? 3 : 30;
            s.append(Edge.house("n" + (char) ('a' + h), 1 + r.nextInt(brokenGlass ? 4 : 12), r.nextInt(12), kept,
                    r.nextInt(place), r.nextInt(place)));
        }
        int n = 4 + r.nextInt(9);
        String[] fades = {"if heat < " + n + " then " + n + " - heat + broken else 0",
            "if heat < " + n + " + which * 2 then (" + n + " - burnt) / 2 + open else leaves",
            "if kept < 9 then 1 else if heat / 3 < " + n + " / 3 then kept / 9 + 2 else day - day / 4 * 4",
            "" + r.nextInt(4)};
        s.append("fades = ").append(brokenGlass ? "if day < 120 then 0 else " : "").append(fades[r.nextInt(4)]).append(";");
        s.append("warms = ").append(r.nextBoolean() ? "" + (2 + r.nextInt(5)) : "6 - burnt / 2").append(";");
        s.append("cools = ").append(r.nextBoolean() ? "1 + broken" : "heat / " + (2 + r.nextInt(4)) + " + 1").append(";");
        s.append("coals 999; roof ").append(12 + r.nextInt(12)).append("; seed ").append(r.nextInt(9900)).append(";");
        return s.append(brokenGlass ? "hail 100;" : "hail 0;").toString();
    }

    /**
     * Some days and things done. No pane breaks any more: there is no HAIL, or all panes are broken already, so that
     * days that are done and days that would be are alike.
     */
    private static SummerHouses begun(int t, int mostHouses, String more) {
        boolean brokenGlass = t % 2 == 1;
        SummerHouses x = Check.of(text(t, mostHouses, brokenGlass) + more);
        Random r = new Random(t);
        x.days(brokenGlass ? 60 : r.nextInt(3));
        x.days(brokenGlass ? 60 : 0);
        if (brokenGlass) {
            Check.due("all panes of text " + t + " are broken", x.count(5), x.count(15));
        }
        int houses = x.count(0);
        for (int i = 0; i < 3; i++) {
            int house = r.nextInt(houses);
            x.burn(house, 1 + r.nextInt(3));
            x.door(r.nextInt(houses), true);
            x.cut(house, r.nextInt(houses));
        }
        return x;
    }

    private static SummerHouses begun(int t) {
        return begun(t, 6, "");
    }

    private static int[] each(int houses, java.util.function.IntUnaryOperator of) {
        int[] all = new int[houses];
        for (int h = 0; h < houses; h++) {
            all[h] = of.applyAsInt(h);
        }
        return all;
    }

    private static int sum(int[] all) {
        int sum = 0;
        for (int one : all) {
            sum += one;
        }
        return sum;
    }

    /** The first of the most. */
    private static int firstMost(int[] all) {
        int best = 0;
        for (int i = 1; i < all.length; i++) {
            best = all[i] > all[best] ? i : best;
        }
        return best;
    }

    private static boolean isAhead(int[] one, int[] other) {
        for (int i = 0; i < one.length; i++) {
            if (one[i] != other[i]) {
                return one[i] < other[i];
            }
        }
        return false;
    }

    // ---- coals

    /** Tries every number of coals in each house from this one on; keeps the least loss, of alike ones the first. */
    private static void tryShares(int[][] loss, int house, int left, int[] going, int[] best, int[] least) {
        if (house == loss.length) {
            int sum = 0;
            for (int h = 0; h < loss.length; h++) {
                sum += loss[h][going[h]];
            }
            if (sum < least[0] || (sum == least[0] && isAhead(going, best))) {
                least[0] = sum;
                System.arraycopy(going, 0, best, 0, best.length);
            }
            return;
        }
        for (int own = left; own >= 0; own--) {
            going[house] = own;
            tryShares(loss, house + 1, left - own, going, best, least);
        }
    }

    private static void shares() {
        Edge.of(15, "SHARE of n COALS (0 .. 30; whatever there are): so that LOSS of all HOUSES, added, is least, no more"
                + " than n burnt: how much; how many in a HOUSE, of alike ones the fewest in the first, then in the next one.");
        for (int t = 0; t < TEXTS; t++) {
            SummerHouses x = begun(t);
            int houses = x.count(0);
            int[] most = {30, 30, 20, 12, 8, 7};
            int n = t % (most[houses - 1] + 1);
            int[][] loss = new int[houses][n + 1];
            for (int i = 0; i < houses * (n + 1); i++) {
                loss[i / (n + 1)][i % (n + 1)] = x.loss(i / (n + 1), i % (n + 1));
            }
            int[] best = new int[houses];
            int[] least = {Edge.MAX};
            tryShares(loss, 0, n, new int[houses], best, least);
            Edge.is("text " + t + ": share(" + n + ", NONE)", x.share(n, NONE), least[0]);
            for (int h = 0; h < houses; h++) {
                Edge.is("text " + t + ": share(" + n + ", " + h + ")", x.share(n, h), best[h]);
            }
        }
        Edge.of(15, "SHARE: how much (i NONE), else how many in the i-th HOUSE; NONE: no such ones.");
        SummerHouses x = Check.of(Edge.keeping(50, 50) + "coals 0; fades = 6 - burnt * (1 + which);");
        Edge.is("share(3, NONE)", x.share(3, NONE), 6);
        Edge.is("share(3, 0)", x.share(3, 0), 0);
        Edge.is("share(3, 1)", x.share(3, 1), 3);
        Edge.is("share(3, 2)", x.share(3, 2), NONE);
    }

    /** The fewest coals by which a house has no loss; NONE: not by 30. */
    private static int needed(SummerHouses x, int house, int[] calls) {
        for (int n = 0; n <= 30; n++) {
            calls[0]++;
            if (x.loss(house, n) == 0) {
                return n;
            }
        }
        return NONE;
    }

    private static void enough() {
        Edge.of(16, "ENOUGH: the fewest COALS (0 .. 30 each) by which no HOUSE has a LOSS.");
        int by = 0;
        for (int t = 0; t < TEXTS; t++) {
            SummerHouses x = begun(t);
            int[] all = each(x.count(0), h -> needed(x, h, new int[1]));
            boolean can = true;
            for (int one : all) {
                can = can && one != NONE;
            }
            by += can ? 1 : 0;
            Edge.is("text " + t + ": enough()", x.enough(), can ? sum(all) : NOT);
        }
        Edge.is("some can and some can't", by > 5 && by < TEXTS - 5, true);
    }

    private static void burnShared(SummerHouses x, int n) {
        int[] given = each(x.count(0), h -> x.share(n, h));
        for (int h = 0; h < given.length; h++) {
            if (given[h] > 0) {
                Check.due("burn(" + h + ", " + given[h] + ")", x.burn(h, given[h]) == NONE, false);
            }
        }
        x.days(1);
    }

    private static void plans() {
        Edge.of(17, "PLAN of n COALS (0 .. 10) for three DAYS, so many to be burnt today, so many tomorrow, the rest the day"
                + " behind that, each day as SHARE tells of them as it is then: so that what is KEPT in all behind these,"
                + " added, is most: how much; how many today, of alike ones the fewest, then tomorrow.");
        for (int t = 0; t < TEXTS; t++) {
            SummerHouses x = begun(t);
            x.hold(0);
            int n = t % 4;
            int[] best = {NONE, 0, 0};
            for (int today = 0; today <= n; today++) {
                for (int tomorrow = 0; today + tomorrow <= n; tomorrow++) {
                    x.restore(0);
                    burnShared(x, today);
                    burnShared(x, tomorrow);
                    burnShared(x, n - today - tomorrow);
                    best = x.count(3) > best[0] ? new int[] {x.count(3), today, tomorrow} : best;
                }
            }
            SummerHouses y = begun(t);
            for (int what = 0; what < 3; what++) {
                Edge.is("text " + t + ": plan(" + n + ", " + what + ")", y.plan(n, what), best[what]);
            }
        }
        Edge.of(17, "PLAN: what 0 how much, 1 how many today, 2 tomorrow; NONE: no such ones.");
        SummerHouses x = Check.of(Edge.keeping(100) + "fades = if 1 < burnt then 0 else 9 + day;");
        int[] two = {100 - 9 - 10, 0, 0};
        int[] four = {100 - 9, 0, 2};
        for (int what = 0; what < 3; what++) {
            Edge.is("plan(2, " + what + ")", x.plan(2, what), two[what]);
            Edge.is("plan(4, " + what + ")", x.plan(4, what), four[what]);
        }
        Edge.is("plan(4, 3)", x.plan(4, 3), NONE);
    }

    private static void worstFirstSaves() {
        Edge.of(18, "WORST: the HOUSE with most LOSS now (0 more), of alike ones the first; how much.");
        for (int t = 0; t < TEXTS; t++) {
            SummerHouses x = begun(t);
            int[] loss = each(x.count(0), h -> x.loss(h, 0));
            Edge.is("text " + t + ": worst(0)", x.worst(0), firstMost(loss));
            Edge.is("text " + t + ": worst(1)", x.worst(1), loss[firstMost(loss)]);
            Edge.is("text " + t + ": count(13)", x.count(13), sum(loss));
        }
        Edge.of(14, "LOSS of a HOUSE with n COALS more burnt in it now: what FADES tells then.");
        for (int t = 0; t < TEXTS; t++) {
            SummerHouses x = begun(t);
            int house = t % x.count(0);
            int n = 1 + t % 30;
            int loss = x.loss(house, n);
            x.burn(house, n);
            Edge.is("text " + t + ": loss(" + house + ", " + n + ")", loss, x.house(house, 9));
        }
        Edge.of(27, "SAVES of a HOUSE: by how much less LOSS it has with one COAL than without.");
        for (int t = 0; t < TEXTS; t++) {
            SummerHouses x = begun(t);
            for (int h = 0; h < x.count(0); h++) {
                Edge.is("text " + t + ": saves(" + h + ")", x.saves(h), x.loss(h, 0) - x.loss(h, 1));
            }
        }
        Edge.of(28, "FIRST: the HOUSE that one COAL SAVES most, of alike ones the first.");
        for (int t = 0; t < TEXTS; t++) {
            SummerHouses x = begun(t);
            Edge.is("text " + t + ": first()", x.first(), firstMost(each(x.count(0), x::saves)));
        }
    }

    /** For how many days the coals last, by burning them; NONE if that takes too many calls to find out. */
    private static int lastsByBurning(SummerHouses x) {
        int[] calls = {60};
        for (int day = 0; day < 60; day++) {
            for (int h = 0; h < x.count(0); h++) {
                int n = Math.max(0, needed(x, h, calls));
                calls[0] += 3;
                if (n > x.count(2)) {
                    return day;
                }
                if (n > 0) {
                    x.burn(h, n);
                }
            }
            x.days(1);
            calls[0] += 2;
            if (calls[0] > MOST_CALLS - 100) {
                return NONE;
            }
        }
        return 60;
    }

    private static void lasts() {
        Edge.of(19, "LASTS: for how many DAYS (0 .. 60) COALS last, if each day as many are burnt in each HOUSE, by number,"
                + " as it needs to have no LOSS (up to 30; if it has one even so, none), till there are too few for one; no HAIL.");
        int found = 0;
        for (int t = 0; t < 3 * TEXTS; t++) {
            String coals = "coals " + (9 + t % 30) + ";";
            int want = lastsByBurning(begun(t, 2, coals));
            if (want != NONE) {
                Edge.is("text " + t + ": lasts()", begun(t, 2, coals).lasts(), want);
                found += want > 0 && want < 60 ? 1 : 0;
            }
        }
        Edge.is("some last a while", found > 10, true);
        Edge.of(19, "LASTS.");
        SummerHouses x = Check.of(Edge.keeping(900, 900) + "coals 7; fades = if burnt < 1 + which then 1 else 0;");
        Edge.is("lasts(): three a day, of seven", x.lasts(), 2);
    }

    private static int daysTillNothing(SummerHouses x, int house, int what) {
        for (int day = 0; day <= 200; day++) {
            if (x.house(house, what) == 0) {
                return day;
            }
            x.days(1);
        }
        return NOT;
    }

    private static void goneAndCold() {
        Edge.of(20, "GONE of a HOUSE: behind how many DAYS (0 .. 200) nothing is KEPT in it, no COALS burnt.");
        int gone = 0;
        for (int t = 0; t < TEXTS; t++) {
            int house = t % begun(t).count(0);
            int want = daysTillNothing(begun(t), house, 3);
            gone += want > 0 ? 1 : 0;
            Edge.is("text " + t + ": gone(" + house + ")", begun(t).gone(house), want);
        }
        Edge.is("some go by and by", gone > 10, true);
        Edge.of(21, "COLD of a HOUSE: behind how many DAYS (0 .. 200) its HEAT is 0, likewise.");
        for (int t = 0; t < TEXTS; t++) {
            int house = t % begun(t).count(0);
            Edge.is("text " + t + ": cold(" + house + ")", begun(t).cold(house), daysTillNothing(begun(t), house, 2));
        }
    }

    // ---- places and pairs

    private static int[][] distances(SummerHouses x) {
        int houses = x.count(0);
        int[][] far = new int[houses][houses];
        for (int i = 0; i < houses * houses; i++) {
            far[i / houses][i % houses] = x.far(i / houses, i % houses);
        }
        return far;
    }

    private static void nearestTwinsDraughty() {
        Edge.of(22, "FAR of two HOUSES: how much X differ and how much Y differ, added.");
        for (int t = 0; t < TEXTS; t++) {
            SummerHouses x = begun(t);
            int a = t % x.count(0);
            for (int b = 0; b < x.count(0); b++) {
                int want = Math.abs(x.house(a, 11) - x.house(b, 11)) + Math.abs(x.house(a, 12) - x.house(b, 12));
                Edge.is("text " + t + ": far(" + a + ", " + b + ")", x.far(a, b), want);
                Edge.is("text " + t + ": far(" + b + ", " + a + ")", x.far(b, a), want);
            }
        }
        Edge.of(26, "NEAREST of a HOUSE: the other one that is least FAR, of alike ones the first.");
        for (int t = 0; t < TEXTS; t++) {
            SummerHouses x = begun(t);
            int[][] far = distances(x);
            for (int a = 0; a < far.length; a++) {
                int best = NOT;
                for (int b = far.length - 1; b >= 0; b--) {
                    best = b != a && (best == NOT || far[a][b] <= far[a][best]) ? b : best;
                }
                Edge.is("text " + t + ": nearest(" + a + ")", x.nearest(a), best);
            }
        }
        Edge.of(29, "TWINS: the two HOUSES of which what is KEPT differs least, of alike ones the first; how much.");
        for (int t = 0; t < TEXTS; t++) {
            SummerHouses x = begun(t);
            int[] kept = each(x.count(0), h -> x.house(h, 3));
            int both = NOT;
            int least = NOT;
            for (int i = kept.length * kept.length - 1; i >= 0; i--) {
                int a = i / kept.length;
                int b = i % kept.length;
                if (a < b && (both == NOT || Math.abs(kept[a] - kept[b]) <= least)) {
                    least = Math.abs(kept[a] - kept[b]);
                    both = 10 * a + b;
                }
            }
            Edge.is("text " + t + ": twins(0)", x.twins(0), both);
            Edge.is("text " + t + ": twins(1)", x.twins(1), least);
        }
        Edge.of(29, "TWINS: what 0 the two (10 * the lesser + the other), 1 how much; -2: there are not two. NONE for others.");
        Edge.is("twins(0)", Check.of(Edge.keeping(5, 90, 40, 60, 41)).twins(0), 24);
        Edge.is("twins(1)", Check.of(Edge.keeping(5, 90, 40, 60, 41)).twins(1), 1);
        Edge.of(30, "DRAUGHTY: the HOUSE that cools most now (COOLS, twice if open), of alike ones the first; how much.");
        for (int t = 0; t < TEXTS; t++) {
            SummerHouses x = begun(t);
            int[] cooler = each(x.count(0), h -> x.house(h, 7) * (1 + x.house(h, 4)));
            Edge.is("text " + t + ": draughty(0)", x.draughty(0), firstMost(cooler));
            Edge.is("text " + t + ": draughty(1)", x.draughty(1), cooler[firstMost(cooler)]);
        }
    }

    /** Tries every way on from here, the highest houses first; keeps the shortest, of alike ones the lowest. */
    private static void tryWays(int[][] far, int step, int[] going, int[] best, int[] least) {
        if (step == far.length) {
            int length = 0;
            for (int i = 1; i < far.length; i++) {
                length += far[going[i - 1]][going[i]];
            }
            if (length < least[0] || (length == least[0] && isAhead(going, best))) {
                least[0] = length;
                System.arraycopy(going, 0, best, 0, best.length);
            }
            return;
        }
        for (int h = far.length - 1; h >= 0; h--) {
            boolean seen = false;
            for (int i = 0; i < step; i++) {
                seen = seen || going[i] == h;
            }
            if (!seen) {
                going[step] = h;
                tryWays(far, step + 1, going, best, least);
            }
        }
    }

    private static void rounds() {
        Edge.of(23, "ROUND: the shortest way from a HOUSE through all, anywhere ending (FAR, added).");
        roundsOf(true);
        Edge.of(24, "NEXT of such a way: the HOUSE that comes i-th on it (0: the one it is from), of alike ways the lowest"
                + " HOUSE first, then the next one.");
        roundsOf(false);
    }

    private static void roundsOf(boolean length) {
        for (int t = 0; t < TEXTS; t++) {
            SummerHouses x = begun(t);
            int[][] far = distances(x);
            int from = t % far.length;
            int[] going = new int[far.length];
            going[0] = from;
            int[] best = new int[far.length];
            int[] least = {Edge.MAX};
            tryWays(far, 1, going, best, least);
            if (length) {
                Edge.is("text " + t + ": round(" + from + ")", x.round(from), least[0]);
            }
            for (int i = 0; i < far.length && !length; i++) {
                Edge.is("text " + t + ": next(" + from + ", " + i + ")", x.next(from, i), best[i]);
            }
        }
    }

    /** Whether pipes (bits of pairs a * houses + b) join all. */
    private static boolean joins(long pipes, int houses) {
        int joined = 1;
        for (int i = 0; i < houses * houses * houses; i++) {
            int a = i % houses;
            int b = i / houses % houses;
            if ((pipes >> (a * houses + b) & 1) == 1 && (joined >> a & 1) != (joined >> b & 1)) {
                joined |= 1 << a | 1 << b;
            }
        }
        return joined == (1 << houses) - 1;
    }

    /** Tries each pair with a pipe and without. */
    private static int leastPipes(int[][] far, int pair, long pipes, int sum) {
        int houses = far.length;
        if (pair == houses * houses) {
            return joins(pipes, houses) ? sum : Edge.MAX;
        }
        int a = pair / houses;
        int b = pair % houses;
        int without = leastPipes(far, pair + 1, pipes, sum);
        return a >= b ? without : Math.min(without, leastPipes(far, pair + 1, pipes | 1L << pair, sum + far[a][b]));
    }

    private static void pipes() {
        Edge.of(25, "PIPES: the least FAR, added, of pipes that join all HOUSES.");
        for (int t = 0; t < TEXTS; t++) {
            SummerHouses x = begun(t, t % 8 == 0 ? 6 : 5, "");
            Edge.is("text " + t + ": pipes()", x.pipes(), leastPipes(distances(x), 0, 0, 0));
        }
    }

    /** Tries each roof for each house; the fewest roofs, of alike ones the lowest. */
    private static void tryRoofs(int[] panes, int roof, int house, int[] going, int[] best, int[] fewest) {
        if (house == panes.length) {
            int[] under = new int[panes.length];
            int used = 0;
            for (int h = 0; h < panes.length; h++) {
                if (going[h] > used) {
                    return;
                }
                used = Math.max(used, going[h] + 1);
                under[going[h]] += panes[h];
            }
            boolean fits = true;
            for (int all : under) {
                fits = fits && all <= roof;
            }
            if (fits && (used < fewest[0] || (used == fewest[0] && isAhead(going, best)))) {
                fewest[0] = used;
                System.arraycopy(going, 0, best, 0, best.length);
            }
            return;
        }
        for (int r = panes.length - 1; r >= 0; r--) {
            going[house] = r;
            tryRoofs(panes, roof, house + 1, going, best, fewest);
        }
    }

    private static void roofs() {
        Edge.of(31, "ROOFS: the fewest roofs under which all HOUSES can be, each with ROOF PANES under it at most; which roof"
                + " a HOUSE is under, roofs being numbered as they first come by HOUSES' numbers, of alike ones the lowest for"
                + " the first HOUSE, then for the next one.");
        int several = 0;
        for (int t = 0; t < 2 * TEXTS; t += 2) {
            SummerHouses x = begun(t);
            int[] panes = each(x.count(0), h -> x.house(h, 0));
            int[] best = new int[panes.length];
            int[] fewest = {Edge.MAX};
            tryRoofs(panes, x.count(18), 0, new int[panes.length], best, fewest);
            several += fewest[0] > 2 ? 1 : 0;
            Edge.is("text " + t + ": roofs(NONE)", x.roofs(NONE), fewest[0]);
            for (int h = 0; h < panes.length; h++) {
                Edge.is("text " + t + ": roofs(" + h + ")", x.roofs(h), best[h]);
            }
        }
        Edge.is("some need three", several > 5, true);
        Edge.of(31, "ROOFS: how many (i NONE), else which the i-th HOUSE is under (from 0 on); -2: a HOUSE has too many PANES"
                + " (i NONE or not); NONE: no such HOUSE.");
        SummerHouses x = Check.of(Edge.glazed(7, 9, 3, 2) + "roof 10;");
        Edge.is("roofs(NONE)", x.roofs(NONE), 3);
        int[] under = {0, 1, 0, 2};
        for (int h = 0; h < 4; h++) {
            Edge.is("roofs(" + h + ")", x.roofs(h), under[h]);
        }
    }

    /** Tries each partner, or none (a number behind all), for each house. */
    private static void tryPairs(int[] kept, int house, int[] going, int[] best, int[] mostAndLeast) {
        if (house == kept.length) {
            int pairs = 0;
            int sum = 0;
            for (int h = 0; h < kept.length; h++) {
                if (going[h] < kept.length && going[going[h]] != h) {
                    return;
                }
                if (going[h] < kept.length && h < going[h]) {
                    pairs++;
                    sum += Math.abs(kept[h] - kept[going[h]]);
                }
            }
            boolean alike = pairs == mostAndLeast[0] && sum == mostAndLeast[1];
            boolean better = pairs > mostAndLeast[0] || (pairs == mostAndLeast[0] && sum < mostAndLeast[1]);
            if (better || (alike && isAhead(going, best))) {
                mostAndLeast[0] = pairs;
                mostAndLeast[1] = sum;
                System.arraycopy(going, 0, best, 0, best.length);
            }
            return;
        }
        for (int other = kept.length; other >= 0; other--) {
            if (other != house) {
                going[house] = other;
                tryPairs(kept, house + 1, going, best, mostAndLeast);
            }
        }
    }

    private static void paired() {
        Edge.of(32, "PAIRED: as many pairs of HOUSES as can be, each in one at most, so that differences of what is KEPT,"
                + " added, are least: how much; with which a HOUSE, of alike ones the lowest for the first, nothing behind"
                + " all, then for the next one.");
        for (int t = 0; t < TEXTS; t++) {
            SummerHouses x = begun(t);
            int[] kept = each(x.count(0), h -> x.house(h, 3));
            int[] best = new int[kept.length];
            int[] mostAndLeast = {NONE, 0};
            tryPairs(kept, 0, new int[kept.length], best, mostAndLeast);
            Edge.is("text " + t + ": paired(NONE)", x.paired(NONE), mostAndLeast[1]);
            for (int h = 0; h < kept.length; h++) {
                Edge.is("text " + t + ": paired(" + h + ")", x.paired(h), best[h] == kept.length ? NOT : best[h]);
            }
        }
        Edge.of(32, "PAIRED: how much (i NONE), else with which the i-th HOUSE (-2: none); NONE: no such HOUSE.");
        SummerHouses x = Check.of(Edge.keeping(5, 90, 40, 60, 41));
        Edge.is("paired(NONE): 90 with 60, 40 with 41", x.paired(NONE), 31);
        int[] with = {NOT, 3, 4, 1, 2};
        for (int h = 0; h < 5; h++) {
            Edge.is("paired(" + h + ")", x.paired(h), with[h]);
        }
    }

    private static void summers() {
        Edge.of(33, "SUMMERS: in how many HOUSES v (1 .. 999) or more is KEPT.");
        for (int t = 0; t < TEXTS; t++) {
            SummerHouses x = begun(t);
            for (int v = 1; v < 1000; v += 9) {
                int least = v;
                Edge.is("text " + t + ": summers(" + v + ")", x.summers(v), sum(each(x.count(0), h -> x.house(h, 3) >= least ? 1 : 0)));
                v = v > 200 ? v + 90 : v;
            }
        }
    }

    // ---- days to come

    private static void inDays() {
        Edge.of(34, "IN n DAYS (0 .. 60; with HAIL): HEAT, what is KEPT, broken panes of a HOUSE.");
        int[] whats = {2, 3, 1};
        for (int t = 0; t < TEXTS; t++) {
            SummerHouses x = begun(t, 6, "hail " + (t % 2 == 1 ? 100 : 5 * t / 2) + ";");
            x.door(0, true);
            int houses = x.count(0);
            int n = t * 7 % 61;
            int[] then = each(3 * houses, i -> x.then(i / 3, n, i % 3));
            x.days(n);
            for (int i = 0; i < then.length; i++) {
                Edge.is("text " + t + ": then(" + i / 3 + ", " + n + ", " + i % 3 + ")", then[i], x.house(i / 3, whats[i % 3]));
            }
        }
    }

    private static void years() {
        Edge.of(35, "YEAR by s SEEDS (1 .. 20) from the text's SEED on: in how many of them anything is KEPT in a HOUSE in n"
                + " DAYS (0 .. 60).");
        int some = 0;
        for (int t = 0; t < TEXTS; t++) {
            int n = 1 + t % 20;
            int s = 1 + t * 3 % 20;
            int seed = 500 * (t % 20);
            String told = text(t, 6, false) + "fades = broken * broken * 3; hail " + (20 + t) + "; seed ";
            int house = t % Check.of(told + "0;").count(0);
            int want = 0;
            for (int i = 0; i < s; i++) {
                want += Check.of(told + (seed + i) + ";").then(house, n, 1) > 0 ? 1 : 0;
            }
            some += want > 0 && want < s ? 1 : 0;
            Edge.is("text " + t + ": year(" + house + ", " + n + ", " + s + ")", Check.of(told + seed + ";").year(house, n, s), want);
        }
        Edge.is("some by some SEEDS alone", some > 3, true);
    }

    // ---- marks

    private static boolean isSo(SummerHouses x, int house, int mark, int v, boolean so) {
        return (x.house(house, WHAT_OF_MARK[mark]) >= v) == so;
    }

    private static void whose() {
        Edge.of(36, "TOLD: that a mark (0 PANES, 1 HEAT, 2 KEPT, 3 broken) of a HOUSE unknown is v (0 .. 999) or more now, or"
                + " is not; 20 at most, numbered from 0 on; KNOWN by k: the first k.");
        whoseOf(0);
        Edge.of(38, "WHOSE: HOUSES of which all that is KNOWN is so: how many; which (bits).");
        whoseOf(1);
        Edge.of(37, "All that was TOLD is forgotten: how many there were.");
        SummerHouses x = begun(1);
        x.tell(0, 999, true);
        Edge.is("none has 999 PANES", x.whose(1, 0), 0);
        Edge.is("forget()", x.forget(), 1);
        Edge.is("all are left", x.whose(0, 0), x.count(0));
        Edge.is("forget() once more", x.forget(), 0);
        Edge.of(38, "WHOSE, as KNOWN by k: what 0 how many, 1 which (bits); NONE: no such ones.");
        x.tell(0, 1, true);
        Edge.is("whose(1, 1)", x.whose(1, 1), (1 << x.count(0)) - 1);
        Edge.is("whose(2, 1)", x.whose(2, 1), NONE);
    }

    private static void whoseOf(int what) {
        for (int t = 0; t < TEXTS; t++) {
            SummerHouses x = begun(t);
            Random r = new Random(t);
            int houses = x.count(0);
            int left = (1 << houses) - 1;
            for (int k = 1; k <= 6; k++) {
                int mark = r.nextInt(4);
                int v = Math.max(0, x.house(r.nextInt(houses), WHAT_OF_MARK[mark]) - r.nextInt(2));
                boolean so = r.nextInt(3) > 0;
                Edge.is("text " + t + ": its number", x.tell(mark, v, so), k - 1);
                for (int h = 0; h < houses; h++) {
                    left &= isSo(x, h, mark, v, so) ? -1 : ~(1 << h);
                }
                Edge.is("text " + t + ": whose(" + k + ", " + what + ")", x.whose(k, what), what == 1 ? left : Integer.bitCount(left));
            }
        }
    }

    private static void look() {
        Edge.of(39, "LOOK by v: the mark of which, once it is told so, fewest are left, at worst; of alike ones the first.");
        int none = 0;
        for (int t = 0; t < TEXTS; t++) {
            SummerHouses x = begun(t);
            Random r = new Random(t);
            int v = x.house(r.nextInt(x.count(0)), WHAT_OF_MARK[r.nextInt(4)]);
            int known = x.house(r.nextInt(x.count(0)), 3) + r.nextInt(2);
            int[] worst = new int[4];
            for (int mark = 0; mark < 4; mark++) {
                for (int so = 0; so < 2; so++) {
                    x.forget();
                    x.tell(2, known, t % 3 > 0);
                    x.tell(mark, v, so == 1);
                    worst[mark] = Math.min(worst[mark], -x.whose(2, 0));
                }
            }
            boolean left = x.whose(1, 0) > 0;
            none += left ? 0 : 1;
            Edge.is("text " + t + ": look(1, " + v + ")", x.look(1, v), left ? firstMost(worst) : NOT);
        }
        Edge.is("now and then none is left", none > 0 && none < TEXTS / 2, true);
    }

    // ---- hail

    private static void noHail() {
        Edge.of(34, "What would be (nothing happens; HAIL in IN n DAYS and YEAR alone).");
        for (int t = 0; t < TEXTS; t += 2) {
            String told = text(t, 6, false) + "fades = if heat < 5 then 5 - heat + broken * 3 else broken; cools = 1 + broken * 2;";
            SummerHouses hail = Check.of(told + "hail 100;");
            SummerHouses none = Check.of(told + "hail 0;");
            for (int h = 0; h < none.count(0); h++) {
                Edge.is("text " + t + ": gone(" + h + ")", hail.gone(h), none.gone(h));
                Edge.is("text " + t + ": cold(" + h + ")", hail.cold(h), none.cold(h));
                Edge.is("text " + t + ": share(5, " + h + ")", hail.share(5, h), none.share(5, h));
                Edge.is("text " + t + ": then(" + h + ", 60, 2) without HAIL", none.then(h, 60, 2), 0);
            }
            for (int what = 0; what < 3; what++) {
                Edge.is("text " + t + ": plan(4, " + what + ")", hail.plan(4, what), none.plan(4, what));
            }
            Edge.is("text " + t + ": lasts()", hail.lasts(), none.lasts());
            int broken = sum(each(hail.count(0), h -> hail.then(h, 60, 2)));
            Edge.is("text " + t + ": then(.., 60, 2) with HAIL", broken > 0, true);
        }
    }
}
