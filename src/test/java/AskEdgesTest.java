/** Boundaries of promises 14 to 35: what would be, and the best of ways, roofs and pairs; nothing happens by asking. */
public final class AskEdgesTest {
    private static final int NONE = Edge.NONE;
    private static final int NOT = -2;
    private static final int[] NO_HOUSES = {-1, 3, 6, Edge.MIN, Edge.MAX, 1 << 30};
    /** Beside NONE, which asks for all of them. */
    private static final int[] NO_HOUSES_NOR_ALL = {-2, 3, 6, Edge.MIN, Edge.MAX, 1 << 30};
    private static final int[] NO_WHAT_OF_TWO = {-1, 2, Edge.MIN, Edge.MAX};
    private static final int[] NO_WHAT_OF_THREE = {-1, 3, Edge.MIN, Edge.MAX};

    public static void main(String[] args) {
        loss();
        lossIsWithin();
        share();
        shareAlike();
        enough();
        plan();
        planAlike();
        planEachDay();
        planAgain();
        worst();
        lasts();
        lastsUpTo30();
        lastsByNumber();
        gone();
        cold();
        far();
        round();
        next();
        pipes();
        nearest();
        saves();
        first();
        twins();
        draughty();
        roofs();
        roofsAlike();
        paired();
        summers();
        then();
        year();
        yearBySeeds();
        Edge.end("AskEdgesTest", 14, 35);
    }

    /** One house in which so much is kept, without coals. */
    private static SummerHouses fading(String fades) {
        return Check.of("house a 1 0 900 0 0; coals 0; fades = " + fades + ";");
    }

    // ---- promise 14

    private static void loss() {
        Edge.of(14, "LOSS (n 0 .. 30); NONE: no such ones.");
        Edge.Made made = () -> fading("100 - burnt");
        Edge.same(made, "loss(0, 0)", x -> x.loss(0, 0), 100);
        Edge.same(made, "loss(0, 1)", x -> x.loss(0, 1), 99);
        Edge.same(made, "loss(0, 30), whatever COALS there are", x -> x.loss(0, 30), 70);
        for (int n : new int[] {-1, 31, Edge.MIN, Edge.MAX}) {
            Edge.refused(made, "loss(0, " + n + ")", x -> x.loss(0, n));
            Edge.refused(Edge::busy, "loss(2, " + n + ")", x -> x.loss(2, n));
        }
        Edge.same(Edge::busy, "loss(2, 30)", x -> x.loss(2, 30), 0);
        for (int house : NO_HOUSES) {
            Edge.refused(Edge::busy, "loss(" + house + ", 0)", x -> x.loss(house, 0));
        }
        Edge.refused(Edge::empty, "loss(0, 0) of none", x -> x.loss(0, 0));
    }

    private static void lossIsWithin() {
        Edge.of(14, "LOSS of a HOUSE with n COALS more burnt in it now: what FADES tells then.");
        SummerHouses more = Check.of("house a 1 0 900 0 0; fades = 100 - burnt;");
        more.burn(0, 5);
        Edge.is("5 burnt and 0 more", more.loss(0, 0), 95);
        Edge.is("5 burnt and 30 more", more.loss(0, 30), 65);
        SummerHouses kept = Check.of(Edge.keeping(0, 7, 999) + "fades = 9999;");
        Edge.is("no more than is KEPT", kept.loss(0, 3), 0);
        Edge.is("no more than is KEPT", kept.loss(1, 3), 7);
        Edge.is("no more than is KEPT", kept.loss(2, 3), 999);
        Edge.is("0 at least", fading("0 - 1").loss(0, 3), 0);
        SummerHouses hot = Check.of("house a 1 9 900 0 0; warms = 99; fades = if heat < 999 then 5 else 0;");
        Edge.is("9 coals: 900", hot.loss(0, 9), 5);
        Edge.is("10 coals: 999", hot.loss(0, 10), 0);
        SummerHouses most = Check.of("house a 1 10 900 0 0; warms = 99; fades = if 999 < heat then 5 else 0;");
        Edge.is("999 at most", most.loss(0, 30), 0);
    }

    // ---- promise 15

    private static void share() {
        Edge.of(15, "SHARE of n COALS (0 .. 30; whatever there are)");
        Edge.Made thirty = () -> fading("if burnt < 30 then 1 else 0");
        Edge.same(thirty, "share(0, NONE)", x -> x.share(0, NONE), 1);
        Edge.same(thirty, "share(29, NONE)", x -> x.share(29, NONE), 1);
        Edge.same(thirty, "share(29, 0)", x -> x.share(29, 0), 0);
        Edge.same(thirty, "share(30, NONE)", x -> x.share(30, NONE), 0);
        Edge.same(thirty, "share(30, 0)", x -> x.share(30, 0), 30);
        for (int n : new int[] {-1, 31, Edge.MIN, Edge.MAX}) {
            Edge.refused(thirty, "share(" + n + ", NONE)", x -> x.share(n, NONE));
            Edge.refused(Edge::busy, "share(" + n + ", 2)", x -> x.share(n, 2));
        }
        Edge.of(15, "how much (i NONE), else how many in the i-th HOUSE; NONE: no such ones.");
        Edge.same(Edge::busy, "share(3, 2) is there", x -> x.share(3, 2) == NONE, false);
        for (int i : NO_HOUSES_NOR_ALL) {
            Edge.refused(Edge::busy, "share(3, " + i + ")", x -> x.share(3, i));
        }
        Edge.same(Edge::empty, "share(30, NONE) of none", x -> x.share(30, NONE), 0);
        Edge.refused(Edge::empty, "share(0, 0) of none", x -> x.share(0, 0));
        Edge.refused(Edge::empty, "share(31, NONE) of none", x -> x.share(31, NONE));
        String all = Edge.keeping(5, 5, 5, 5, 5, 5) + "coals 0; fades = if burnt < 5 then 5 - burnt else 0;";
        Edge.is("30 of 30 in six", Check.of(all).share(30, NONE), 0);
        Edge.is("5 in the last", Check.of(all).share(30, 5), 5);
        Edge.is("29 in six", Check.of(all).share(29, NONE), 1);
        Edge.is("4 in the first of 29", Check.of(all).share(29, 0), 4);
    }

    private static void shares(String text, int n, int... want) {
        SummerHouses x = Check.of(text);
        for (int h = 0; h < want.length; h++) {
            Edge.is("share(" + n + ", " + h + ") of " + text, x.share(n, h), want[h]);
        }
    }

    private static void shareAlike() {
        Edge.of(15, "of alike ones the fewest in the first, then in the next one");
        String one = Edge.keeping(9, 9, 9) + "fades = if burnt < 1 then 1 else 0;";
        shares(one, 0, 0, 0, 0);
        shares(one, 1, 0, 0, 1);
        shares(one, 2, 0, 1, 1);
        shares(one, 3, 1, 1, 1);
        shares(one, 30, 1, 1, 1);
        Edge.of(15, "no more than n burnt");
        String no = Edge.keeping(9, 9, 9) + "fades = 1;";
        shares(no, 30, 0, 0, 0);
        String worse = Edge.keeping(90, 90) + "fades = burnt;";
        shares(worse, 30, 0, 0);
        // Two in one house save more than one in each: a coal alone saves nothing.
        String two = Edge.keeping(9, 9) + "fades = if burnt < 2 then 5 else 0;";
        shares(two, 1, 0, 0);
        shares(two, 2, 0, 2);
        shares(two, 3, 0, 2);
        shares(two, 4, 2, 2);
        // The middle one's first coal saves as much as the last one's, the first one's saves most.
        String which = Edge.keeping(90, 90, 90) + "fades = if burnt < 1 then 20 - which * 10 else 0;";
        shares(which, 1, 1, 0, 0);
        shares(which, 2, 1, 1, 0);
        shares(which, 3, 1, 1, 0);
    }

    // ---- promise 16

    private static void enough() {
        Edge.of(16, "ENOUGH; -2: not by 30 in each.");
        Edge.same(Edge::empty, "enough() of none", x -> x.enough(), 0);
        Edge.same(() -> fading("0"), "enough()", x -> x.enough(), 0);
        Edge.same(() -> fading("if burnt < 1 then 1 else 0"), "enough()", x -> x.enough(), 1);
        Edge.same(() -> fading("if burnt < 30 then 1 else 0"), "enough()", x -> x.enough(), 30);
        Edge.same(() -> fading("if burnt < 31 then 1 else 0"), "enough()", x -> x.enough(), NOT);
        Edge.same(() -> fading("1"), "enough()", x -> x.enough(), NOT);
        Edge.same(Edge::busy, "enough()", x -> x.enough(), 7);
        String six = Edge.keeping(9, 9, 9, 9, 9, 9) + "coals 0;";
        Edge.is("six by 30", Check.of(six + "fades = if burnt < 30 then 1 else 0;").enough(), 180);
        Edge.is("five by 30", Check.of(six + "fades = if burnt < 30 + which / 5 then 1 else 0;").enough(), NOT);
        Edge.is("first by 31", Check.of(six + "fades = if burnt < 31 - which then 1 else 0;").enough(), NOT);
        Edge.is("nothing to lose", Check.of(Edge.keeping(0, 0) + "fades = 9;").enough(), 0);
        Edge.of(16, "the fewest COALS (0 .. 30 each) by which no HOUSE has a LOSS");
        Edge.is("none by 3, none by 9 or more", fading("if burnt < 3 then 1 else if 3 < burnt then 9 - burnt else 0").enough(), 3);
        SummerHouses more = Check.of(Edge.keeping(9) + "fades = if burnt < 31 then 1 else 0;");
        more.burn(0, 1);
        Edge.is("30 more than one", more.enough(), 30);
    }

    // ---- promise 17

    private static void plan() {
        Edge.of(17, "PLAN of n COALS (0 .. 10) for three DAYS");
        Edge.Made made = () -> fading("if burnt < 1 then 10 else 0");
        Edge.same(made, "plan(0, 0)", x -> x.plan(0, 0), 870);
        Edge.same(made, "plan(1, 0)", x -> x.plan(1, 0), 880);
        Edge.same(made, "plan(2, 0)", x -> x.plan(2, 0), 890);
        Edge.same(made, "plan(3, 0)", x -> x.plan(3, 0), 900);
        Edge.same(made, "plan(10, 0)", x -> x.plan(10, 0), 900);
        for (int n : new int[] {-1, 11, Edge.MIN, Edge.MAX}) {
            for (int what = 0; what < 3; what++) {
                int each = what;
                Edge.refused(made, "plan(" + n + ", " + what + ")", x -> x.plan(n, each));
            }
            Edge.refused(Edge::empty, "plan(" + n + ", 0) of none", x -> x.plan(n, 0));
        }
        Edge.of(17, "what 0 how much, 1 how many today, 2 tomorrow; NONE: no such ones.");
        Edge.same(Edge::busy, "plan(10, 2) is there", x -> x.plan(10, 2) == NONE, false);
        for (int what : NO_WHAT_OF_THREE) {
            Edge.refused(Edge::busy, "plan(3, " + what + ")", x -> x.plan(3, what));
        }
        for (int what = 0; what < 3; what++) {
            int each = what;
            Edge.same(Edge::empty, "plan(10, " + what + ") of none", x -> x.plan(10, each), 0);
        }
    }

    private static void plans(String fades, int n, int much, int today, int tomorrow) {
        SummerHouses x = fading(fades);
        Edge.is("plan(" + n + ", 0) of " + fades, x.plan(n, 0), much);
        Edge.is("plan(" + n + ", 1) of " + fades, x.plan(n, 1), today);
        Edge.is("plan(" + n + ", 2) of " + fades, x.plan(n, 2), tomorrow);
    }

    private static void planAlike() {
        Edge.of(17, "how many today, of alike ones the fewest, then tomorrow");
        String each = "if burnt < 1 then 10 else 0";
        plans(each, 0, 870, 0, 0);
        plans(each, 1, 880, 0, 0);
        plans(each, 2, 890, 0, 1);
        plans(each, 3, 900, 1, 1);
        plans(each, 10, 900, 1, 1);
        plans("1", 10, 897, 0, 0);
        plans("0", 10, 900, 0, 0);
        Edge.of(17, "so many to be burnt today, so many tomorrow, the rest the day behind that");
        plans("if 0 < day then 0 else 10 - burnt", 10, 900, 10, 0);
        plans("if 0 < day then 0 else 10 - burnt", 9, 899, 9, 0);
        plans("if day < 1 then 0 else if 1 < day then 0 else 10 - burnt", 10, 900, 0, 10);
        plans("if day < 2 then 0 else 10 - burnt", 10, 900, 0, 0);
        plans("if day < 2 then 0 else 10 - burnt", 9, 899, 0, 0);
        // A fourth day is not looked at.
        plans("if day < 3 then 0 else 10", 10, 900, 0, 0);
    }

    private static void planEachDay() {
        Edge.of(17, "each day as SHARE tells of them as it is then");
        // A coal today saves 1 today and costs 100 tomorrow: SHARE looks at the one day alone, PLAN keeps it back.
        plans("if 0 < day then heat * 20 else 9 - burnt", 1, 891, 0, 0);
        // On the last day SHARE burns none of what is left, as it would cost.
        plans("if day < 2 then 10 - burnt * 10 else burnt", 10, 900, 1, 1);
        // What is kept back by SHARE is not burnt on another day.
        plans("if day < 1 then 10 - burnt / 2 * 10 else if burnt < 1 then 10 else 0", 4, 900, 2, 1);
        plans("if day < 1 then 10 - burnt / 2 * 10 else if burnt < 1 then 10 else 0", 3, 890, 0, 1);
        SummerHouses low = Check.of("house a 1 0 2 0 0; fades = 9;");
        Edge.is("nothing is left", low.plan(10, 0), 0);
        Edge.is("nothing is left", low.plan(10, 1), 0);
        SummerHouses burnt = Check.of("house a 1 0 900 0 0; fades = if burnt < 1 then 10 else 0;");
        burnt.burn(0, 1);
        Edge.is("with what was burnt today", burnt.plan(0, 0), 880);
        Edge.is("with what was burnt today", burnt.plan(2, 0), 900);
        Edge.is("with what was burnt today", burnt.plan(2, 1), 0);
        Edge.is("with what was burnt today", burnt.plan(2, 2), 1);
        Edge.of(17, "HAIL in IN n DAYS and YEAR alone");
        SummerHouses hail = Check.of("house a 9 0 900 0 0; fades = broken * 50; hail 100;");
        Edge.is("no HAIL", hail.plan(0, 0), 900);
    }

    private static void planAgain() {
        Edge.of(17, "so that what is KEPT in all behind these, added, is most: how much");
        SummerHouses x = fading("if burnt < 1 then 10 else 0");
        int[] much = {870, 880, 890, 900, 900, 900, 900, 900, 900, 900, 900};
        int[] today = {0, 0, 0, 1, 1, 1, 1, 1, 1, 1, 1};
        for (int n = 10; n >= 0; n--) {
            Edge.is("plan(" + n + ", 0), asked once more", x.plan(n, 0), much[n]);
            Edge.is("plan(" + n + ", 1), asked once more", x.plan(n, 1), today[n]);
        }
        x.days(60);
        Edge.is("plan(3, 0), sixty days behind", x.plan(3, 0), 300);
        Edge.is("plan(0, 0), sixty days behind", x.plan(0, 0), 270);
    }

    // ---- promise 18

    private static void worst() {
        Edge.of(18, "WORST: what 0 which, 1 how much; -2: no HOUSES. NONE for others.");
        Edge.same(Edge::empty, "worst(0) of none", x -> x.worst(0), NOT);
        Edge.same(Edge::empty, "worst(1) of none", x -> x.worst(1), NOT);
        for (int what : NO_WHAT_OF_TWO) {
            Edge.refused(Edge::busy, "worst(" + what + ")", x -> x.worst(what));
            Edge.refused(Edge::empty, "worst(" + what + ") of none", x -> x.worst(what));
        }
        Edge.same(() -> fading("0"), "worst(0) with no LOSS", x -> x.worst(0), 0);
        Edge.same(() -> fading("0"), "worst(1) with no LOSS", x -> x.worst(1), 0);
        SummerHouses last = Check.of(Edge.keeping(9, 9, 9, 9, 9, 999) + "fades = kept;");
        Edge.is("worst(0), the last of six", last.worst(0), 5);
        Edge.is("worst(1)", last.worst(1), 999);
        Edge.of(18, "the HOUSE with most LOSS now (0 more), of alike ones the first");
        Edge.is("alike", Check.of(Edge.keeping(9, 9, 9) + "fades = 4;").worst(0), 0);
        Edge.is("alike", Check.of(Edge.keeping(3, 9, 9) + "fades = 4;").worst(0), 1);
        SummerHouses now = Check.of(Edge.keeping(90, 90) + "fades = 10 - burnt;");
        now.burn(0, 1);
        Edge.is("worst(0)", now.worst(0), 1);
        Edge.is("worst(1), 0 more", now.worst(1), 10);
    }

    // ---- promise 19

    private static int lastsOf(int coals, String fades) {
        SummerHouses x = Check.of("house a 1 0 900 0 0; coals " + coals + "; fades = " + fades + ";");
        return x.lasts();
    }

    private static void lasts() {
        Edge.of(19, "for how many DAYS (0 .. 60) COALS last");
        String one = "if burnt < 1 then 1 else 0";
        Edge.is("none for the first day", lastsOf(0, one), 0);
        Edge.is("1", lastsOf(1, one), 1);
        Edge.is("59", lastsOf(59, one), 59);
        Edge.is("60", lastsOf(60, one), 60);
        Edge.is("61", lastsOf(61, one), 60);
        Edge.is("999", lastsOf(999, one), 60);
        Edge.is("none are needed", lastsOf(0, "0"), 60);
        Edge.same(Edge::empty, "lasts() of none", x -> x.lasts(), 60);
        Edge.same(() -> fading(one), "lasts()", x -> x.lasts(), 0);
        Edge.same(Edge::busy, "lasts() is there", x -> x.lasts() >= 0, true);
        Edge.is("needed from day 60 on", lastsOf(0, "if day < 60 then 0 else 1 - burnt"), 60);
        Edge.is("needed from day 59 on", lastsOf(0, "if day < 59 then 0 else 1 - burnt"), 59);
    }

    private static void lastsUpTo30() {
        Edge.of(19, "as it needs to have no LOSS (up to 30; if it has one even so, none)");
        Edge.is("29 of 30", lastsOf(29, "if burnt < 30 then 1 else 0"), 0);
        Edge.is("30 of 30", lastsOf(30, "if burnt < 30 then 1 else 0"), 1);
        Edge.is("59 of 30", lastsOf(59, "if burnt < 30 then 1 else 0"), 1);
        Edge.is("60 of 30", lastsOf(60, "if burnt < 30 then 1 else 0"), 2);
        Edge.is("31 do not help", lastsOf(0, "if burnt < 31 then 1 else 0"), 60);
        Edge.is("31 do not help", lastsOf(999, "if burnt < 31 then 1 else 0"), 60);
        // Hopeless till only 30 are kept, one going a day; then it is worth its coals.
        Edge.is("none as long as it is hopeless", Check.of("house a 1 0 40 0 0; coals 0; fades = if 30 < kept then 1 else if burnt < 1 then 1 else 0;").lasts(), 10);
    }

    private static void lastsByNumber() {
        Edge.of(19, "by number, as it needs to have no LOSS");
        String two = Edge.keeping(9, 9) + "fades = if burnt < 1 then 1 else 0; coals ";
        Edge.is("1 for two", Check.of(two + "1;").lasts(), 0);
        Edge.is("2 for two", Check.of(two + "2;").lasts(), 1);
        Edge.is("3 for two", Check.of(two + "3;").lasts(), 1);
        Edge.is("119 for two", Check.of(two + "119;").lasts(), 59);
        Edge.is("120 for two", Check.of(two + "120;").lasts(), 60);
        Edge.of(19, "till there are too few for one; no HAIL.");
        SummerHouses hail = Check.of("house a 9 0 900 0 0; coals 0; fades = broken; hail 100;");
        Edge.is("no HAIL", hail.lasts(), 60);
        hail.days(1);
        Edge.is("a broken pane, for which no coal helps", hail.lasts(), 60);
        SummerHouses today = Check.of("house a 1 0 900 0 0; coals 3; fades = if burnt < 1 then 1 else 0;");
        today.burn(0, 1);
        Edge.is("today's is burnt already", today.lasts(), 3);
    }

    // ---- promises 20 and 21

    private static void gone() {
        Edge.of(20, "GONE (0: now); -2: not; NONE: no such HOUSE.");
        int[][] keptAndDays = {{0, 0}, {1, 1}, {2, 2}, {199, 199}, {200, 200}, {201, NOT}, {999, NOT}};
        for (int[] one : keptAndDays) {
            Edge.same(() -> Check.of(Edge.keeping(one[0])), "gone(0) of " + one[0], x -> x.gone(0), one[1]);
        }
        Edge.is("gone(0) with no FADES", fading("0").gone(0), NOT);
        Edge.is("gone(0) at once", fading("kept").gone(0), 1);
        for (int house : NO_HOUSES) {
            Edge.refused(Edge::busy, "gone(" + house + ")", x -> x.gone(house));
        }
        Edge.refused(Edge::empty, "gone(0) of none", x -> x.gone(0));
        Edge.is("gone(5) of six", Check.of(Edge.keeping(9, 9, 9, 9, 9, 3)).gone(5), 3);
        Edge.of(20, "behind how many DAYS (0 .. 200) nothing is KEPT in it, no COALS burnt.");
        Edge.is("on day 199 all of it", fading("if day < 199 then 0 else kept").gone(0), 200);
        Edge.is("on day 200 all of it", fading("if day < 200 then 0 else kept").gone(0), NOT);
        SummerHouses hail = Check.of("house a 9 0 900 0 0; fades = broken * 100; hail 100;");
        Edge.is("no HAIL", hail.gone(0), NOT);
        hail.days(1);
        Edge.is("by what is broken now", hail.gone(0), 9);
    }

    /** A house of this heat, by a coal where a text could not tell it. */
    private static SummerHouses warm(int heat) {
        int told = heat < 100 ? heat : 99;
        int rest = heat - told;
        SummerHouses x = Check.of("house a 1 " + told + " 0 0 0; cools = 1; warms = if burnt < 1 then "
                + rest / 2 + " else " + (rest - rest / 2) + ";");
        if (rest > 0) {
            x.burn(0, 2);
        }
        return x;
    }

    private static void cold() {
        Edge.of(21, "COLD, likewise.");
        for (int heat : new int[] {0, 1, 2, 99, 199, 200}) {
            Edge.is("HEAT", warm(heat).house(0, 2), heat);
            Edge.same(() -> warm(heat), "cold(0) of " + heat, x -> x.cold(0), heat);
        }
        Edge.same(() -> warm(201), "cold(0) of 201", x -> x.cold(0), NOT);
        for (int house : NO_HOUSES) {
            Edge.refused(Edge::busy, "cold(" + house + ")", x -> x.cold(house));
        }
        Edge.refused(Edge::empty, "cold(0) of none", x -> x.cold(0));
        Edge.of(21, "behind how many DAYS (0 .. 200) its HEAT is 0, likewise.");
        Edge.is("cools not", Check.of("house a 1 1 0 0 0; cools = 0;").cold(0), NOT);
        Edge.is("on day 199", Check.of("house a 1 9 0 0 0; cools = if day < 199 then 0 else 9;").cold(0), 200);
        Edge.is("on day 200", Check.of("house a 1 9 0 0 0; cools = if day < 200 then 0 else 9;").cold(0), NOT);
        SummerHouses open = warm(200);
        open.door(0, true);
        Edge.is("twice, open", open.cold(0), 100);
        SummerHouses odd = Check.of("house a 1 7 0 0 0; cools = 1;");
        odd.door(0, true);
        Edge.is("7 by 2", odd.cold(0), 4);
        Edge.is("no HAIL", Check.of("house a 9 9 0 0 0; cools = broken; hail 100;").cold(0), NOT);
    }

    // ---- promises 22 to 26

    private static void far() {
        Edge.of(22, "FAR of two HOUSES: how much X differ and how much Y differ, added.");
        Edge.Made made = () -> Check.of(Edge.standing(0, 99, 99, 0, 0, 0));
        Edge.same(made, "far(0, 1)", x -> x.far(0, 1), 198);
        Edge.same(made, "far(1, 0)", x -> x.far(1, 0), 198);
        Edge.same(made, "far(0, 2)", x -> x.far(0, 2), 99);
        Edge.same(made, "far(2, 1)", x -> x.far(2, 1), 99);
        Edge.same(made, "far(1, 1)", x -> x.far(1, 1), 0);
        Edge.of(22, "FAR; NONE: no such ones.");
        for (int house : NO_HOUSES) {
            Edge.refused(Edge::busy, "far(" + house + ", 0)", x -> x.far(house, 0));
            Edge.refused(Edge::busy, "far(0, " + house + ")", x -> x.far(0, house));
            Edge.refused(Edge::busy, "far(" + house + ", " + house + ")", x -> x.far(house, house));
        }
        Edge.refused(Edge::empty, "far(0, 0) of none", x -> x.far(0, 0));
    }

    private static void round() {
        Edge.of(23, "ROUND; NONE: no such HOUSE.");
        Edge.same(() -> Check.of(Edge.standing(50, 50)), "round(0) of one", x -> x.round(0), 0);
        Edge.same(() -> Check.of(Edge.standing(0, 0, 99, 99)), "round(0) of two", x -> x.round(0), 198);
        Edge.same(() -> Check.of(Edge.standing(0, 0, 99, 99)), "round(1) of two", x -> x.round(1), 198);
        for (int house : NO_HOUSES) {
            Edge.refused(Edge::busy, "round(" + house + ")", x -> x.round(house));
        }
        Edge.refused(Edge::empty, "round(0) of none", x -> x.round(0));
        Edge.of(23, "the shortest way from a HOUSE through all, anywhere ending (FAR, added)");
        SummerHouses row = Check.of(Edge.standing(0, 0, 50, 0, 10, 0, 40, 0, 20, 0, 30, 0));
        int[] want = {50, 50, 60, 60, 70, 70};
        for (int h = 0; h < 6; h++) {
            Edge.is("round(" + h + ") of a row", row.round(h), want[h]);
        }
        Edge.is("round(6)", row.round(6), NONE);
        SummerHouses corners = Check.of(Edge.standing(0, 0, 99, 99, 0, 0, 99, 99, 0, 0, 99, 99));
        Edge.is("once over", corners.round(0), 198);
    }

    private static void next() {
        Edge.of(24, "NEXT; NONE: no such HOUSE, no such i.");
        SummerHouses row = Check.of(Edge.standing(0, 0, 50, 0, 10, 0, 40, 0, 20, 0, 30, 0));
        int[] want = {0, 2, 4, 5, 3, 1};
        for (int i = 0; i < 6; i++) {
            Edge.is("next(0, " + i + ") of a row", row.next(0, i), want[i]);
        }
        Edge.is("next(0, 6)", row.next(0, 6), NONE);
        Edge.is("next(0, -1)", row.next(0, -1), NONE);
        Edge.same(Edge::busy, "next(2, 0)", x -> x.next(2, 0), 2);
        Edge.same(Edge::busy, "next(2, 2)", x -> x.next(2, 2), 1);
        for (int i : NO_HOUSES) {
            Edge.refused(Edge::busy, "next(0, " + i + ")", x -> x.next(0, i));
            Edge.refused(Edge::busy, "next(" + i + ", 0)", x -> x.next(i, 0));
        }
        Edge.same(() -> Check.of(Edge.standing(50, 50)), "next(0, 0) of one", x -> x.next(0, 0), 0);
        Edge.refused(() -> Check.of(Edge.standing(50, 50)), "next(0, 1) of one", x -> x.next(0, 1));
        Edge.refused(Edge::empty, "next(0, 0) of none", x -> x.next(0, 0));
        Edge.of(24, "(0: the one it is from), of alike ways the lowest HOUSE first, then the next one");
        for (int from = 0; from < 6; from++) {
            SummerHouses alike = Check.of(Edge.standing(9, 9, 9, 9, 9, 9, 9, 9, 9, 9, 9, 9));
            Edge.is("next(" + from + ", 0)", alike.next(from, 0), from);
            for (int i = 1; i < 6; i++) {
                Edge.is("next(" + from + ", " + i + ") of alike ones", alike.next(from, i), i <= from ? i - 1 : i);
            }
        }
        // From the middle both ends are as good: the lower one is first.
        SummerHouses middle = Check.of(Edge.standing(20, 0, 10, 0, 0, 0));
        Edge.is("next(1, 1)", middle.next(1, 1), 0);
        Edge.is("next(1, 2)", middle.next(1, 2), 2);
        // A square: both ways around are as good.
        SummerHouses square = Check.of(Edge.standing(0, 0, 10, 10, 10, 0, 0, 10));
        int[] around = {0, 2, 1, 3};
        for (int i = 0; i < 4; i++) {
            Edge.is("next(0, " + i + ") of a square", square.next(0, i), around[i]);
        }
    }

    private static void pipes() {
        Edge.of(25, "PIPES (none, one HOUSE: 0).");
        Edge.same(Edge::empty, "pipes() of none", x -> x.pipes(), 0);
        Edge.same(() -> Check.of(Edge.standing(50, 50)), "pipes() of one", x -> x.pipes(), 0);
        Edge.same(() -> Check.of(Edge.standing(0, 0, 99, 99)), "pipes() of two", x -> x.pipes(), 198);
        Edge.is("six in one place", Check.of(Edge.standing(9, 9, 9, 9, 9, 9, 9, 9, 9, 9, 9, 9)).pipes(), 0);
        Edge.of(25, "the least FAR, added, of pipes that join all HOUSES");
        Edge.is("a star", Check.of(Edge.standing(50, 50, 50, 99, 50, 0, 99, 50, 0, 50)).pipes(), 49 + 50 + 49 + 50);
        Edge.is("three pairs", Check.of(Edge.standing(0, 0, 50, 0, 99, 0, 0, 1, 50, 1, 99, 1)).pipes(), 3 + 50 + 49);
        Edge.is("pipes() of busy ones", Edge.busy().pipes(), 17);
    }

    private static void nearest() {
        Edge.of(26, "NEAREST; -2: there is no other; NONE: no such HOUSE.");
        Edge.same(() -> Check.of(Edge.standing(50, 50)), "nearest(0) of one", x -> x.nearest(0), NOT);
        Edge.refused(() -> Check.of(Edge.standing(50, 50)), "nearest(1) of one", x -> x.nearest(1));
        Edge.same(() -> Check.of(Edge.standing(0, 0, 99, 99)), "nearest(0) of two", x -> x.nearest(0), 1);
        Edge.same(() -> Check.of(Edge.standing(0, 0, 99, 99)), "nearest(1) of two", x -> x.nearest(1), 0);
        for (int house : NO_HOUSES) {
            Edge.refused(Edge::busy, "nearest(" + house + ")", x -> x.nearest(house));
        }
        Edge.refused(Edge::empty, "nearest(0) of none", x -> x.nearest(0));
        Edge.of(26, "the other one that is least FAR, of alike ones the first");
        SummerHouses alike = Check.of(Edge.standing(9, 9, 9, 9, 9, 9));
        Edge.is("nearest(0)", alike.nearest(0), 1);
        Edge.is("nearest(1)", alike.nearest(1), 0);
        Edge.is("nearest(2)", alike.nearest(2), 0);
        SummerHouses later = Check.of(Edge.standing(50, 50, 0, 0, 50, 60, 60, 50, 50, 41));
        Edge.is("nearest(0): the last is nearer", later.nearest(0), 4);
        SummerHouses same = Check.of(Edge.standing(50, 50, 0, 0, 50, 60, 60, 50, 50, 40));
        Edge.is("nearest(0): three are alike", same.nearest(0), 2);
    }

    // ---- promises 27 to 30

    private static void saves() {
        Edge.of(27, "SAVES (may be below 0); -100000: no such HOUSE.");
        Edge.same(() -> Check.of(Edge.keeping(999) + "fades = if burnt < 1 then 999 else 0;"), "all", x -> x.saves(0), 999);
        Edge.same(() -> fading("1"), "nothing", x -> x.saves(0), 0);
        Edge.same(() -> Check.of(Edge.keeping(999) + "fades = burnt;"), "one below 0", x -> x.saves(0), -1);
        Edge.same(() -> Check.of(Edge.keeping(999) + "fades = burnt * 9999;"), "all below 0", x -> x.saves(0), -999);
        for (int house : NO_HOUSES) {
            Edge.same(Edge::busy, "saves(" + house + ")", x -> x.saves(house), -100000);
        }
        Edge.same(Edge::empty, "saves(0) of none", x -> x.saves(0), -100000);
        Edge.of(27, "SAVES of a HOUSE: by how much less LOSS it has with one COAL than without.");
        // What is burnt already is no COAL more: the fifth and the sixth coal are the ones that are looked at.
        SummerHouses burnt = Check.of(Edge.keeping(999) + "fades = if burnt < 5 then 10 else if burnt < 6 then 3 else 8;");
        burnt.burn(0, 4);
        Edge.is("saves(0), the fifth", burnt.saves(0), 7);
        burnt.burn(0, 1);
        Edge.is("saves(0), the sixth", burnt.saves(0), -5);
        Edge.is("saves(0): FADES held to kept", Check.of(Edge.keeping(4) + "fades = 9 - burnt * 6;").saves(0), 1);
        Edge.is("saves(0) without a COAL there", Check.of(Edge.keeping(4) + "fades = 2 - burnt; coals 0;").saves(0), 1);
        Edge.is("saves(5) of six", Check.of(Edge.keeping(9, 9, 9, 9, 9, 9) + "fades = which - burnt;").saves(5), 1);
    }

    private static void first() {
        Edge.of(28, "FIRST; -2: no HOUSES.");
        Edge.same(Edge::empty, "first() of none", x -> x.first(), NOT);
        Edge.same(() -> fading("1"), "first() of one", x -> x.first(), 0);
        Edge.same(() -> Check.of(Edge.keeping(999) + "fades = burnt * 9999;"), "first() of one below 0", x -> x.first(), 0);
        Edge.same(Edge::busy, "first() is there", x -> x.first() >= 0, true);
        Edge.of(28, "the HOUSE that one COAL SAVES most, of alike ones the first");
        Edge.is("alike", Check.of(Edge.keeping(9, 9, 9) + "fades = if burnt < 1 then 3 else 0;").first(), 0);
        Edge.is("none saved", Check.of(Edge.keeping(9, 9, 9) + "fades = 3;").first(), 0);
        Edge.is("the last is best", Check.of(Edge.keeping(9, 9, 9, 9, 9, 10) + "fades = if burnt < 1 then kept else 0;").first(), 5);
        Edge.is("the second of two that are alike, the first being less", Check.of(Edge.keeping(8, 9, 9) + "fades = if burnt < 1 then kept else 0;").first(), 1);
        Edge.is("least below 0", Check.of(Edge.keeping(999, 5, 900) + "fades = burnt * 9999;").first(), 1);
    }

    private static void twins() {
        Edge.of(29, "what 0 the two (10 * the lesser + the other), 1 how much; -2: there are not two. NONE for others.");
        for (int what = 0; what < 2; what++) {
            int each = what;
            Edge.same(Edge::empty, "twins(" + what + ") of none", x -> x.twins(each), NOT);
            Edge.same(() -> Check.of(Edge.keeping(9)), "twins(" + what + ") of one", x -> x.twins(each), NOT);
        }
        for (int what : NO_WHAT_OF_TWO) {
            Edge.refused(Edge::busy, "twins(" + what + ")", x -> x.twins(what));
            Edge.refused(Edge::empty, "twins(" + what + ") of none", x -> x.twins(what));
        }
        Edge.same(() -> Check.of(Edge.keeping(0, 999)), "twins(0) of two", x -> x.twins(0), 1);
        Edge.same(() -> Check.of(Edge.keeping(0, 999)), "twins(1) of two", x -> x.twins(1), 999);
        Edge.same(() -> Check.of(Edge.keeping(7, 7)), "twins(1) of alike ones", x -> x.twins(1), 0);
        SummerHouses last = Check.of(Edge.keeping(0, 100, 210, 330, 460, 461));
        Edge.is("twins(0), the last two", last.twins(0), 45);
        Edge.is("twins(1)", last.twins(1), 1);
        Edge.of(29, "the two HOUSES of which what is KEPT differs least, of alike ones the first; how much");
        Edge.is("all alike", Check.of(Edge.keeping(5, 5, 5)).twins(0), 1);
        Edge.is("0 and 2 ahead of 1 and 2", Check.of(Edge.keeping(4, 8, 6)).twins(0), 2);
        Edge.is("0 and 3 ahead of 1 and 2", Check.of(Edge.keeping(10, 50, 52, 8)).twins(0), 3);
        Edge.is("1 and 2 ahead of 1 and 3", Check.of(Edge.keeping(900, 50, 52, 48)).twins(0), 12);
    }

    private static void draughty() {
        Edge.of(30, "DRAUGHTY: what 0 which, 1 how much; -2: no HOUSES. NONE for others.");
        Edge.same(Edge::empty, "draughty(0) of none", x -> x.draughty(0), NOT);
        Edge.same(Edge::empty, "draughty(1) of none", x -> x.draughty(1), NOT);
        for (int what : NO_WHAT_OF_TWO) {
            Edge.refused(Edge::busy, "draughty(" + what + ")", x -> x.draughty(what));
            Edge.refused(Edge::empty, "draughty(" + what + ") of none", x -> x.draughty(what));
        }
        Edge.same(() -> Check.of(Edge.keeping(1) + "cools = 0;"), "draughty(0) with no COOLS", x -> x.draughty(0), 0);
        Edge.same(() -> Check.of(Edge.keeping(1) + "cools = 0;"), "draughty(1) with no COOLS", x -> x.draughty(1), 0);
        Edge.of(30, "the HOUSE that cools most now (COOLS, twice if open), of alike ones the first");
        SummerHouses most = Check.of(Edge.keeping(1, 1) + "cools = 9999;");
        Edge.is("99, alike", most.draughty(0), 0);
        Edge.is("99", most.draughty(1), 99);
        most.door(1, true);
        Edge.is("twice 99", most.draughty(0), 1);
        Edge.is("twice 99", most.draughty(1), 198);
        most.door(0, true);
        Edge.is("twice 99, alike", most.draughty(0), 0);
        // 6 by a shut door and twice 3 by an open one are alike; by one more they are not.
        SummerHouses six = Check.of(Edge.keeping(1, 1) + "cools = 6 - which * 3;");
        six.door(1, true);
        Edge.is("alike", six.draughty(0), 0);
        SummerHouses five = Check.of(Edge.keeping(1, 1) + "cools = 5 - which * 2;");
        five.door(1, true);
        Edge.is("twice 3 and 5", five.draughty(0), 1);
        // It has a HEAT of 0 and cools no further, but this is what COOLS tells.
        Edge.is("HEAT 0", five.house(1, 2), 0);
        Edge.is("draughty(1)", five.draughty(1), 6);
    }

    // ---- promises 31 and 32

    private static void roofs() {
        Edge.of(31, "-2: a HOUSE has too many PANES (i NONE or not); NONE: no such HOUSE.");
        Edge.Made wide = () -> Check.of(Edge.glazed(1, 13, 2) + "roof 12;");
        Edge.same(wide, "roofs(NONE) of 13", x -> x.roofs(NONE), NOT);
        for (int i = 0; i < 3; i++) {
            int each = i;
            Edge.same(wide, "roofs(" + i + ") of 13", x -> x.roofs(each), NOT);
        }
        Edge.Made just = () -> Check.of(Edge.glazed(1, 12, 2) + "roof 12;");
        Edge.same(just, "roofs(NONE) of 12", x -> x.roofs(NONE), 2);
        Edge.same(just, "roofs(1) of 12", x -> x.roofs(1), 1);
        for (int i : NO_HOUSES_NOR_ALL) {
            Edge.refused(Edge::busy, "roofs(" + i + ")", x -> x.roofs(i));
        }
        Edge.same(Edge::empty, "roofs(NONE) of none", x -> x.roofs(NONE), 0);
        Edge.refused(Edge::empty, "roofs(0) of none", x -> x.roofs(0));
        Edge.is("1 of 1", Check.of(Edge.glazed(1) + "roof 1;").roofs(NONE), 1);
        Edge.is("2 of 1", Check.of(Edge.glazed(2) + "roof 1;").roofs(NONE), NOT);
        Edge.is("20 of 20", Check.of(Edge.glazed(20)).roofs(0), 0);
        Edge.is("20 of 19", Check.of(Edge.glazed(20) + "roof 19;").roofs(0), NOT);
        Edge.is("six", Check.of(Edge.glazed(20, 20, 20, 20, 20, 20)).roofs(NONE), 6);
        Edge.is("six, the last", Check.of(Edge.glazed(20, 20, 20, 20, 20, 20)).roofs(5), 5);
        Edge.is("broken or not", brokenRoofs(), 2);
        Edge.of(31, "the fewest roofs under which all HOUSES can be, each with ROOF PANES under it at most");
        Edge.is("99 under one", Check.of(Edge.glazed(20, 20, 20, 20, 19) + "roof 99;").roofs(NONE), 1);
        Edge.is("100 under 99", Check.of(Edge.glazed(20, 20, 20, 20, 20) + "roof 99;").roofs(NONE), 2);
        Edge.is("120 under 60", Check.of(Edge.glazed(20, 20, 20, 20, 20, 20) + "roof 60;").roofs(NONE), 2);
        Edge.is("120 under 59", Check.of(Edge.glazed(20, 20, 20, 20, 20, 20) + "roof 59;").roofs(NONE), 3);
    }

    /** PANES are counted, broken or whole. */
    private static int brokenRoofs() {
        SummerHouses x = Check.of(Edge.glazed(7, 7) + "roof 13; hail 100;");
        x.days(9);
        return x.roofs(NONE);
    }

    private static void under(String text, int... want) {
        SummerHouses x = Check.of(text);
        for (int h = 0; h < want.length; h++) {
            Edge.is("roofs(" + h + ") of " + text, x.roofs(h), want[h]);
        }
    }

    private static void roofsAlike() {
        Edge.of(31, "roofs being numbered as they first come by HOUSES' numbers, of alike ones the lowest for the first HOUSE, then for the next one");
        under(Edge.glazed(1, 1, 1, 1, 1, 1), 0, 0, 0, 0, 0, 0);
        under(Edge.glazed(10, 10, 10, 10, 10, 10), 0, 0, 1, 1, 2, 2);
        under(Edge.glazed(11, 11, 9, 9), 0, 1, 0, 1);
        under(Edge.glazed(5, 5, 15, 15), 0, 1, 0, 1);
        under(Edge.glazed(8, 5, 12, 15), 0, 1, 0, 1);
        under(Edge.glazed(12, 9, 8, 2), 0, 1, 0, 1);
        under(Edge.glazed(12, 8, 9, 2), 0, 0, 1, 1);
        under(Edge.glazed(12, 7, 8, 2), 0, 0, 1, 1);
        under(Edge.glazed(12, 6, 8, 2), 0, 0, 1, 0);
        under(Edge.glazed(20, 1, 20, 1), 0, 1, 2, 1);
    }

    private static void pairs(String text, int much, int... want) {
        SummerHouses x = Check.of(text);
        Edge.is("paired(NONE) of " + text, x.paired(NONE), much);
        for (int h = 0; h < want.length; h++) {
            Edge.is("paired(" + h + ") of " + text, x.paired(h), want[h]);
        }
    }

    private static void paired() {
        Edge.of(32, "how much (i NONE), else with which the i-th HOUSE (-2: none); NONE: no such HOUSE.");
        Edge.same(Edge::empty, "paired(NONE) of none", x -> x.paired(NONE), 0);
        Edge.refused(Edge::empty, "paired(0) of none", x -> x.paired(0));
        Edge.same(() -> Check.of(Edge.keeping(9)), "paired(NONE) of one", x -> x.paired(NONE), 0);
        Edge.same(() -> Check.of(Edge.keeping(9)), "paired(0) of one", x -> x.paired(0), NOT);
        Edge.same(Edge::busy, "paired(2) is there", x -> x.paired(2) == NONE, false);
        for (int i : NO_HOUSES_NOR_ALL) {
            Edge.refused(Edge::busy, "paired(" + i + ")", x -> x.paired(i));
        }
        pairs(Edge.keeping(0, 999), 999, 1, 0);
        pairs(Edge.keeping(0, 999, 0, 999, 0, 999), 999, 1, 0, 4, 5, 2, 3);
        Edge.of(32, "as many pairs of HOUSES as can be, each in one at most");
        pairs(Edge.keeping(0, 999, 999), 0, NOT, 2, 1);
        pairs(Edge.keeping(0, 500, 501, 999), 0 + 500 + 498, 1, 0, 3, 2);
        pairs(Edge.keeping(1, 900, 2, 901, 500), 2, 2, 3, 0, 1, NOT);
        Edge.of(32, "of alike ones the lowest for the first, nothing behind all, then for the next one");
        pairs(Edge.keeping(5, 5, 5), 0, 1, 0, NOT);
        pairs(Edge.keeping(5, 5, 5, 5), 0, 1, 0, 3, 2);
        pairs(Edge.keeping(5, 5, 5, 5, 5), 0, 1, 0, 3, 2, NOT);
        pairs(Edge.keeping(5, 5, 5, 5, 5, 5), 0, 1, 0, 3, 2, 5, 4);
        pairs(Edge.keeping(10, 20, 30), 10, 1, 0, NOT);
        pairs(Edge.keeping(20, 30, 10), 10, 1, 0, NOT);
        pairs(Edge.keeping(10, 30, 20), 10, 2, NOT, 0);
        pairs(Edge.keeping(0, 10, 20, 30), 20, 1, 0, 3, 2);
        pairs(Edge.keeping(0, 20, 10, 30), 20, 2, 3, 0, 1);
    }

    // ---- promises 33 to 35

    private static void summers() {
        Edge.of(33, "SUMMERS: in how many HOUSES v (1 .. 999) or more is KEPT.");
        Edge.Made made = () -> Check.of(Edge.keeping(0, 1, 500, 998, 999, 999));
        int[][] vAndHow = {{1, 5}, {2, 4}, {500, 4}, {501, 3}, {998, 3}, {999, 2}};
        for (int[] one : vAndHow) {
            Edge.same(made, "summers(" + one[0] + ")", x -> x.summers(one[0]), one[1]);
        }
        Edge.is("summers(9): the first alone", Check.of(Edge.keeping(9, 8)).summers(9), 1);
        Edge.is("summers(9): the last of six alone", Check.of(Edge.keeping(8, 8, 8, 8, 8, 9)).summers(9), 1);
        Edge.is("summers(9): all six", Check.of(Edge.keeping(9, 9, 9, 9, 9, 9)).summers(9), 6);
        Edge.of(33, "SUMMERS; NONE: no such v.");
        for (int v : new int[] {0, -1, 1000, Edge.MIN, Edge.MAX}) {
            Edge.refused(made, "summers(" + v + ")", x -> x.summers(v));
            Edge.refused(Edge::empty, "summers(" + v + ") of none", x -> x.summers(v));
        }
        Edge.same(Edge::empty, "summers(1) of none", x -> x.summers(1), 0);
        Edge.same(Edge::empty, "summers(999) of none", x -> x.summers(999), 0);
    }

    private static void then() {
        Edge.of(34, "IN n DAYS of a HOUSE: what 0 HEAT, 1 KEPT, 2 broken; NONE: no such ones.");
        Edge.Made made = () -> Check.of("house a 20 99 900 0 0; house b 20 0 0 0 0; cools = 1; fades = 2;");
        Edge.same(made, "then(0, 0, 0)", x -> x.then(0, 0, 0), 99);
        Edge.same(made, "then(0, 60, 0)", x -> x.then(0, 60, 0), 39);
        Edge.same(made, "then(0, 0, 1)", x -> x.then(0, 0, 1), 900);
        Edge.same(made, "then(0, 60, 1)", x -> x.then(0, 60, 1), 780);
        Edge.same(made, "then(0, 60, 2)", x -> x.then(0, 60, 2), 0);
        for (int n : new int[] {-1, 61, Edge.MIN, Edge.MAX}) {
            Edge.refused(made, "then(0, " + n + ", 0)", x -> x.then(0, n, 0));
        }
        for (int what : NO_WHAT_OF_THREE) {
            Edge.refused(made, "then(0, 1, " + what + ")", x -> x.then(0, 1, what));
        }
        for (int house : NO_HOUSES) {
            Edge.refused(Edge::busy, "then(" + house + ", 1, 0)", x -> x.then(house, 1, 0));
        }
        Edge.refused(Edge::empty, "then(0, 0, 0) of none", x -> x.then(0, 0, 0));
        Edge.of(34, "IN n DAYS (0 .. 60; with HAIL): HEAT, what is KEPT, broken panes of a HOUSE");
        for (int n : new int[] {0, 1, 2, 30, 59, 60}) {
            for (int h = 0; h < 3; h++) {
                SummerHouses gone = Edge.busy();
                gone.days(n);
                int house = h;
                int[] want = {gone.house(h, 2), gone.house(h, 3), gone.house(h, 1)};
                for (int what = 0; what < 3; what++) {
                    int each = what;
                    Edge.same(Edge::busy, "then(" + h + ", " + n + ", " + what + ")", x -> x.then(house, n, each), want[what]);
                }
            }
        }
        SummerHouses few = Check.of("house a 3 0 0 0 0; hail 100;");
        Edge.is("two broke", few.then(0, 2, 2), 2);
        Edge.is("three broke", few.then(0, 3, 2), 3);
        Edge.is("no more can", few.then(0, 4, 2), 3);
    }

    private static void year() {
        Edge.of(35, "YEAR; NONE: no such ones.");
        Edge.Made made = () -> Check.of(Edge.keeping(60, 0) + "fades = 1; hail 100;");
        Edge.same(made, "year(0, 0, 1)", x -> x.year(0, 0, 1), 1);
        Edge.same(made, "year(0, 0, 20)", x -> x.year(0, 0, 20), 20);
        Edge.same(made, "year(0, 59, 20): 1 is KEPT", x -> x.year(0, 59, 20), 20);
        Edge.same(made, "year(0, 60, 20): nothing is", x -> x.year(0, 60, 20), 0);
        Edge.same(made, "year(1, 0, 20): nothing is", x -> x.year(1, 0, 20), 0);
        for (int n : new int[] {-1, 61, Edge.MIN, Edge.MAX}) {
            Edge.refused(made, "year(0, " + n + ", 1)", x -> x.year(0, n, 1));
        }
        for (int s : new int[] {0, -1, 21, Edge.MIN, Edge.MAX}) {
            Edge.refused(made, "year(0, 1, " + s + ")", x -> x.year(0, 1, s));
        }
        for (int house : NO_HOUSES) {
            Edge.refused(Edge::busy, "year(" + house + ", 1, 1)", x -> x.year(house, 1, 1));
        }
        Edge.refused(Edge::empty, "year(0, 0, 1) of none", x -> x.year(0, 0, 1));
    }

    private static void yearBySeeds() {
        Edge.of(35, "YEAR by s SEEDS (1 .. 20) from the text's SEED on: in how many of them anything is KEPT in a HOUSE in n DAYS (0 .. 60).");
        // Hail of day 0 takes all on day 1. The seeds go on beyond 9,999, which no text could tell.
        for (int seed : new int[] {0, 77, 9980, 9999}) {
            SummerHouses x = Check.of(Edge.keeping(9) + "fades = broken * 9; hail 50; seed " + seed + ";");
            int kept = 0;
            for (int s = 1; s <= 20; s++) {
                kept += Model.lot(100, seed + s - 1, 0) < 50 ? 0 : 1;
                Edge.is("year(0, 2, " + s + ") from " + seed, x.year(0, 2, s), kept);
            }
        }
        SummerHouses late = Check.of(Edge.keeping(9) + "fades = broken * 9; hail 20; seed 5;");
        for (int d = 0; d < 4 && late.house(0, 1) == 0; d++) {
            int kept = 0;
            for (int s = 0; s < 20; s++) {
                kept += Model.lot(100, 5 + s, 4 * d) < 20 ? 0 : 1;
            }
            Edge.is("year(0, 2, 20) on day " + d, late.year(0, 2, 20), kept);
            late.days(1);
        }
    }
}
