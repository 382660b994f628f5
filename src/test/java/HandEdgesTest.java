/** Boundaries of promises 7 to 13: what a DAY and what is done by hand may not go below or beyond, and undo(). */
public final class HandEdgesTest {
    private static final int NONE = Edge.NONE;
    private static final int[] NO_HOUSES = {-1, 3, 6, Edge.MIN, Edge.MAX, 1 << 30};

    public static void main(String[] args) {
        burnNumbers();
        burnAllThereAre();
        burnNoSuchHouse();
        burnToTheHottest();
        burnOneByOne();
        door();
        mendBroken();
        mendCosts();
        cutTenths();
        cutToTheMost();
        cutNoSuchOnes();
        bringNumbers();
        bringToTheMost();
        daysNumbers();
        dayCools();
        dayFades();
        dayByHowItBegan();
        dayHails();
        dayEnds();
        undoNothing();
        undoForty();
        undoByTurns();
        undoEach();
        whatIsNoThingDone();
        undoBehindTextAndRestore();
        Edge.end("HandEdgesTest", 7, 13);
    }

    private static SummerHouses coals(int n) {
        return Check.of("house a 1 10 50 0 0; house b 2 0 50 0 0; warms = 1; coals " + n + ";");
    }

    // ---- promise 7

    private static void burnNumbers() {
        Edge.of(7, "n COALS (1 .. 99) are BURNT: the HEAT then");
        SummerHouses x = coals(999);
        Edge.is("burn(0, 1)", x.burn(0, 1), 11);
        Edge.is("count(2)", x.count(2), 998);
        Edge.is("burn(1, 99)", x.burn(1, 99), 99);
        Edge.is("count(2)", x.count(2), 899);
        Edge.is("count(19)", x.count(19), 100);
        Edge.is("count(14)", x.count(14), 100);
        for (int n : new int[] {0, -1, 100, Edge.MIN, Edge.MAX}) {
            Edge.refused(() -> coals(999), "burn(0, " + n + ")", y -> y.burn(0, n));
            Edge.refused(Edge::busy, "burn(0, " + n + ")", y -> y.burn(0, n));
        }
    }

    private static void burnAllThereAre() {
        Edge.of(7, "NONE, and nothing happens: there are not so many, no such ones.");
        for (int n : new int[] {1, 2, 50, 98, 99}) {
            SummerHouses x = coals(n);
            Edge.is("burn(0, " + n + ") of " + n, x.burn(0, n), 10 + n);
            Edge.is("count(2)", x.count(2), 0);
            Edge.refused(() -> coals(n - 1), "burn(0, " + n + ") of " + (n - 1), y -> y.burn(0, n));
        }
        Edge.refused(() -> coals(0), "burn(0, 1) of 0", y -> y.burn(0, 1));
    }

    private static void burnNoSuchHouse() {
        Edge.of(7, "no such ones.");
        Edge.is("burn(2, 1)", Edge.busy().burn(2, 1), 3);
        for (int house : NO_HOUSES) {
            Edge.refused(Edge::busy, "burn(" + house + ", 1)", x -> x.burn(house, 1));
        }
        Edge.refused(Edge::empty, "burn(0, 1) of none", x -> x.burn(0, 1));
    }

    private static void burnToTheHottest() {
        Edge.of(7, "it is warmer by WARMS (999 at most)");
        String text = "house a 1 9 50 0 0; coals 999; warms = if heat < 900 then 99 else ";
        // 9 and ten times 99: 999.
        SummerHouses just = Check.of(text + "99;");
        Edge.is("burn(0, 9)", just.burn(0, 9), 900);
        Edge.is("burn(0, 1)", just.burn(0, 1), 999);
        Edge.is("burn(0, 1) at 999", just.burn(0, 1), 999);
        Edge.is("burnt all the same", just.house(0, 6), 11);
        Edge.is("COALS all the same", just.count(2), 988);
        SummerHouses below = Check.of(text + "98;");
        Edge.is("burn(0, 10)", below.burn(0, 10), 998);
        Edge.is("burn(0, 1) at 998", below.burn(0, 1), 999);
        SummerHouses beyond = Check.of("house a 1 10 50 0 0; coals 999; warms = 99;");
        Edge.is("burn(0, 9)", beyond.burn(0, 9), 901);
        Edge.is("burn(0, 1): 1000 is too much", beyond.burn(0, 1), 999);
        Edge.is("burn(0, 99)", beyond.burn(0, 99), 999);
        SummerHouses never = Check.of("house a 1 10 50 0 0; warms = 0 - 5;");
        Edge.is("WARMS is not below 0", never.burn(0, 3), 10);
    }

    private static void burnOneByOne() {
        Edge.of(7, "one by one, each by how it is then");
        SummerHouses x = Check.of("house a 1 0 50 0 0; warms = 10 - burnt * 3;");
        Edge.is("burn(0, 1)", x.burn(0, 1), 10);
        Edge.is("burn(0, 2)", x.burn(0, 2), 10 + 7 + 4);
        Edge.is("burn(0, 3)", x.burn(0, 3), 21 + 1);
        SummerHouses y = Check.of("house a 1 1 50 0 0; warms = heat;");
        Edge.is("burn(0, 6)", y.burn(0, 6), 64);
        Edge.is("burn(0, 2)", y.burn(0, 2), 64 + 64 + 99);
    }

    // ---- promise 8

    private static void door() {
        Edge.of(8, "A door is opened, or shut: true; false, and nothing happens: it is so, no such HOUSE.");
        SummerHouses x = Edge.busy();
        Edge.is("door(0, true)", x.door(0, true), true);
        Edge.is("house(0, 4)", x.house(0, 4), 1);
        Edge.is("door(0, false)", x.door(0, false), true);
        Edge.is("house(0, 4)", x.house(0, 4), 0);
        Edge.is("count(9)", x.count(9), 6);
        Edge.same(Edge::busy, "door(0, false), shut", y -> y.door(0, false), false);
        Edge.same(Edge::busy, "door(2, true), open", y -> y.door(2, true), false);
        for (int house : NO_HOUSES) {
            Edge.same(Edge::busy, "door(" + house + ", true)", y -> y.door(house, true), false);
            Edge.same(Edge::busy, "door(" + house + ", false)", y -> y.door(house, false), false);
        }
        Edge.same(Edge::empty, "door(0, true) of none", y -> y.door(0, true), false);
        Edge.same(Edge::empty, "door(0, false) of none", y -> y.door(0, false), false);
    }

    // ---- promise 9

    /** One house of so many panes, of which as many broke as days went by. */
    private static SummerHouses hailed(int panes, int days, String told) {
        SummerHouses x = Check.of("house a " + panes + " 50 50 0 0; hail 100;" + told);
        x.days(days);
        return x;
    }

    private static void mendBroken() {
        Edge.of(9, "NONE, and nothing happens: none is broken, there are too few, no such HOUSE.");
        SummerHouses x = hailed(5, 2, "coals 9; mends = 1;");
        Edge.is("mend(0) of 2", x.mend(0), 1);
        Edge.is("house(0, 1)", x.house(0, 1), 1);
        Edge.is("mend(0) of 1", x.mend(0), 1);
        Edge.is("house(0, 1)", x.house(0, 1), 0);
        Edge.is("mend(0) of 0", x.mend(0), NONE);
        Edge.is("count(2)", x.count(2), 7);
        Edge.is("count(9)", x.count(9), 3);
        Edge.refused(() -> hailed(5, 0, "mends = 0;"), "mend(0), none is broken", y -> y.mend(0));
        Edge.is("mend(0), all are broken", hailed(1, 9, "mends = 0;").mend(0), 0);
        for (int house : NO_HOUSES) {
            Edge.refused(Edge::busy, "mend(" + house + ")", y -> y.mend(house));
        }
        Edge.refused(Edge::empty, "mend(0) of none", y -> y.mend(0));
    }

    private static void mendCosts() {
        Edge.of(9, "a broken pane is MENDED: for MENDS COALS, if there are as many");
        for (int cost : new int[] {0, 1, 7, 98, 99}) {
            String told = "mends = " + cost + "; coals ";
            SummerHouses x = hailed(5, 1, told + cost + ";");
            Edge.is("mend(0) for all " + cost, x.mend(0), cost);
            Edge.is("count(2)", x.count(2), 0);
            Edge.is("house(0, 1)", x.house(0, 1), 0);
            Edge.is("nothing is burnt", x.count(14) + x.count(19), 0);
            if (cost > 0) {
                Edge.refused(() -> hailed(5, 1, told + (cost - 1) + ";"), "mend(0) for one too many, " + cost, y -> y.mend(0));
            }
        }
        SummerHouses dear = hailed(5, 1, "mends = 5000; coals 100;");
        Edge.is("MENDS is 99 at most", dear.mend(0), 99);
        SummerHouses cheap = hailed(5, 1, "mends = 0 - 5000; coals 3;");
        Edge.is("MENDS is 0 at least", cheap.mend(0), 0);
        Edge.is("count(2)", cheap.count(2), 3);
        SummerHouses now = hailed(5, 3, "mends = broken * 10; coals 60;");
        Edge.is("MENDS as it is ahead of it", now.mend(0), 30);
        Edge.is("MENDS as it is ahead of it", now.mend(0), 20);
        Edge.is("MENDS as it is ahead of it", now.mend(0), 10);
        Edge.is("count(2)", now.count(2), 0);
    }

    // ---- promise 10

    private static void cutTenths() {
        Edge.of(10, "a tenth of what is KEPT there, rounded down, goes into the other");
        int[][] keptAndTenth = {{0, 0}, {1, 0}, {9, 0}, {10, 1}, {19, 1}, {20, 2}, {989, 98}, {990, 99}, {999, 99}};
        for (int[] one : keptAndTenth) {
            SummerHouses x = Check.of(Edge.keeping(one[0], 5));
            Edge.is("cut(0, 1) of " + one[0], x.cut(0, 1), one[1]);
            Edge.is("house(0, 3)", x.house(0, 3), one[0] - one[1]);
            Edge.is("house(1, 3)", x.house(1, 3), 5 + one[1]);
            Edge.is("leaves of the other", x.house(1, 5), 1);
            Edge.is("leaves of the one", x.house(0, 5), 0);
            Edge.is("count(16)", x.count(16), 1);
            Edge.is("count(9)", x.count(9), 1);
        }
        Edge.of(10, "which got one more");
        SummerHouses x = Check.of(Edge.keeping(900, 900, 900));
        x.cut(0, 2);
        x.cut(1, 2);
        x.cut(2, 0);
        Edge.is("leaves of 2", x.house(2, 5), 2);
        Edge.is("leaves of 1", x.house(1, 5), 0);
        Edge.is("leaves of 0", x.house(0, 5), 1);
    }

    private static void cutToTheMost() {
        Edge.of(10, "(999 at most, what is more is gone)");
        int[][] otherAndThen = {{899, 998}, {900, 999}, {901, 999}, {998, 999}, {999, 999}};
        for (int[] one : otherAndThen) {
            SummerHouses x = Check.of(Edge.keeping(999, one[0]));
            Edge.is("cut(0, 1) to " + one[0], x.cut(0, 1), 99);
            Edge.is("house(1, 3)", x.house(1, 3), one[1]);
            Edge.is("house(0, 3)", x.house(0, 3), 900);
        }
    }

    private static void cutNoSuchOnes() {
        Edge.of(10, "NONE, and nothing happens: no such ones, one and the same.");
        Edge.is("cut(2, 0)", Edge.busy().cut(2, 0) == NONE, false);
        Edge.is("cut(0, 2)", Edge.busy().cut(0, 2) == NONE, false);
        for (int h = 0; h < 3; h++) {
            int house = h;
            Edge.refused(Edge::busy, "cut(" + h + ", " + h + ")", x -> x.cut(house, house));
        }
        for (int house : NO_HOUSES) {
            Edge.refused(Edge::busy, "cut(" + house + ", 0)", x -> x.cut(house, 0));
            Edge.refused(Edge::busy, "cut(0, " + house + ")", x -> x.cut(0, house));
            Edge.refused(Edge::busy, "cut(" + house + ", " + house + ")", x -> x.cut(house, house));
        }
        Edge.refused(Edge::empty, "cut(0, 1) of none", x -> x.cut(0, 1));
        Edge.refused(() -> Check.of(Edge.keeping(50)), "cut(0, 1) of one", x -> x.cut(0, 1));
    }

    // ---- promise 11

    private static void bringNumbers() {
        Edge.of(11, "COALS are brought (1 .. 99");
        SummerHouses x = Check.of("coals 0;");
        Edge.is("bring(1)", x.bring(1), 1);
        Edge.is("bring(99)", x.bring(99), 100);
        Edge.is("count(2)", x.count(2), 100);
        Edge.of(11, "NONE, and nothing happens: no such n.");
        for (int n : new int[] {0, -1, 100, Edge.MIN, Edge.MAX}) {
            Edge.refused(Edge::busy, "bring(" + n + ")", y -> y.bring(n));
            Edge.refused(Edge::empty, "bring(" + n + ")", y -> y.bring(n));
        }
    }

    /** 999 and 90 times 99 are 9909. */
    private static SummerHouses with9909() {
        SummerHouses x = Check.of("coals 999;");
        for (int i = 0; i < 90; i++) {
            x.bring(99);
        }
        return x;
    }

    private static void bringToTheMost() {
        Edge.of(11, "9,999 at most");
        SummerHouses x = with9909();
        Edge.is("count(2)", x.count(2), 9909);
        Edge.is("bring(89)", x.bring(89), 9998);
        Edge.is("bring(1)", x.bring(1), 9999);
        Edge.is("bring(1) at 9999", x.bring(1), 9999);
        Edge.is("bring(99) at 9999", x.bring(99), 9999);
        Edge.is("count(2)", x.count(2), 9999);
        SummerHouses y = with9909();
        Edge.is("bring(90)", y.bring(90), 9999);
        SummerHouses z = with9909();
        Edge.is("bring(91)", z.bring(91), 9999);
        Edge.is("undo()", z.undo(), true);
        Edge.is("count(2)", z.count(2), 9909);
        Edge.refused(HandEdgesTest::with9909, "bring(100) near it", w -> w.bring(100));
    }

    // ---- promise 12

    private static void daysNumbers() {
        Edge.of(12, "n DAYS (0 .. 60; 0 is no thing done) go by: which it is; NONE, and nothing happens: no such n.");
        SummerHouses x = Edge.busy();
        Edge.is("days(1)", x.days(1), 4);
        Edge.is("days(60)", x.days(60), 64);
        Edge.is("count(1)", x.count(1), 64);
        Edge.is("count(9): two things done", x.count(9), 6);
        Edge.same(Edge::busy, "days(0)", y -> y.days(0), 3);
        Edge.same(Edge::empty, "days(0)", y -> y.days(0), 0);
        for (int n : new int[] {-1, 61, Edge.MIN, Edge.MAX}) {
            Edge.refused(Edge::busy, "days(" + n + ")", y -> y.days(n));
            Edge.refused(Edge::empty, "days(" + n + ")", y -> y.days(n));
        }
        // Sixty at once are what sixty one by one are.
        SummerHouses one = Edge.busy();
        SummerHouses all = Edge.busy();
        for (int i = 0; i < 60; i++) {
            one.days(1);
        }
        all.days(60);
        for (int h = 0; h < 3; h++) {
            for (int what = 0; what <= 12; what++) {
                Edge.is("house(" + h + ", " + what + ")", one.house(h, what), all.house(h, what));
            }
        }
    }

    private static int heatBehind(int heat, int cools, boolean open) {
        SummerHouses x = Check.of("house a 1 " + heat + " 0 0 0; cools = " + cools + ";");
        x.door(0, open);
        x.days(1);
        return x.house(0, 2);
    }

    private static void dayCools() {
        Edge.of(12, "it is cooler by COOLS (0 at least), twice as much if its door is open");
        Edge.is("10 by 9", heatBehind(10, 9, false), 1);
        Edge.is("10 by 10", heatBehind(10, 10, false), 0);
        Edge.is("10 by 11", heatBehind(10, 11, false), 0);
        Edge.is("0 by 0", heatBehind(0, 0, false), 0);
        Edge.is("0 by 99", heatBehind(0, 99, false), 0);
        Edge.is("10 by 0, open", heatBehind(10, 0, true), 10);
        Edge.is("10 by 4, open", heatBehind(10, 4, true), 2);
        Edge.is("10 by 5, open", heatBehind(10, 5, true), 0);
        Edge.is("10 by 6, open", heatBehind(10, 6, true), 0);
        Edge.is("11 by 5, open", heatBehind(11, 5, true), 1);
        Edge.is("99 by 99", heatBehind(99, 99, false), 0);
        // COOLS is held to 99 ahead of being twice as much.
        SummerHouses x = Check.of("house a 1 0 0 0 0; cools = 9999; warms = 99;");
        x.door(0, true);
        Edge.is("burn(0, 3)", x.burn(0, 3), 297);
        x.days(1);
        Edge.is("297 by 9999, open", x.house(0, 2), 99);
    }

    private static void dayFades() {
        Edge.of(12, "less is KEPT, by FADES");
        int[][] keptFadesThen = {{10, 9, 1}, {10, 10, 0}, {10, 11, 0}, {0, 5, 0}, {999, 0, 999}, {999, 999, 0}, {999, 998, 1}};
        for (int[] one : keptFadesThen) {
            SummerHouses x = Check.of(Edge.keeping(one[0]) + "fades = " + one[1] + ";");
            x.days(1);
            Edge.is(one[0] + " by " + one[1], x.house(0, 3), one[2]);
        }
        SummerHouses never = Check.of(Edge.keeping(10) + "fades = 0 - 5;");
        never.days(1);
        Edge.is("no more is KEPT", never.house(0, 3), 10);
    }

    private static void dayByHowItBegan() {
        Edge.of(12, "each HOUSE by how it was as the day began (with what was burnt in it)");
        // Each law is by a thing that the day itself changes.
        SummerHouses x = Check.of("house a 2 50 900 0 0; cools = kept / 100; fades = heat; hail 100; seed 4;");
        x.days(1);
        Edge.is("cooler by what was KEPT", x.house(0, 2), 41);
        Edge.is("less KEPT by the HEAT that was", x.house(0, 3), 850);
        SummerHouses pane = Check.of("house a 2 50 900 0 0; cools = broken * 10; fades = broken * 100; hail 100; seed 4;");
        pane.days(1);
        Edge.is("cooler by panes broken ahead of the hail", pane.house(0, 2), 50);
        Edge.is("less KEPT by panes broken ahead of the hail", pane.house(0, 3), 900);
        pane.days(1);
        Edge.is("cooler by one", pane.house(0, 2), 40);
        Edge.is("less KEPT by one", pane.house(0, 3), 800);
        SummerHouses burnt = Check.of("house a 2 50 900 0 0; warms = 0; cools = burnt; fades = burnt * 10;");
        burnt.burn(0, 4);
        burnt.days(2);
        Edge.is("cooler by what was burnt, once", burnt.house(0, 2), 46);
        Edge.is("less KEPT by what was burnt, once", burnt.house(0, 3), 860);
        SummerHouses day = Check.of("house a 2 50 900 0 0; cools = day; fades = day * 10;");
        day.days(3);
        Edge.is("cooler by 0, 1 and 2", day.house(0, 2), 47);
        Edge.is("less KEPT by 0, 10 and 20", day.house(0, 3), 870);
    }

    private static void dayHails() {
        Edge.of(12, "a pane breaks, if one is whole");
        for (int panes : new int[] {1, 2, 19, 20}) {
            SummerHouses x = hailed(panes, panes - 1, "");
            Edge.is("all but one broke", x.house(0, 1), panes - 1);
            x.days(1);
            Edge.is("all broke", x.house(0, 1), panes);
            x.days(1);
            Edge.is("none is whole", x.house(0, 1), panes);
            x.mend(0);
            Edge.is("one is mended", x.house(0, 1), panes - 1);
            x.days(1);
            Edge.is("it breaks", x.house(0, 1), panes);
        }
        // The house that is struck has no whole pane: none breaks in another one.
        SummerHouses two = Check.of(Edge.glazed(1, 20) + "hail 100; seed 4;");
        int[] struck = {0, 1, 0, 0, 1, 0, 1, 1};
        int second = 0;
        for (int d = 0; d < 8; d++) {
            second += struck[d];
            two.days(1);
            Edge.is("broken in 0", two.house(0, 1), 1);
            Edge.is("broken in 1", two.house(1, 1), second);
        }
        Edge.of(12, "and there are HOUSES");
        SummerHouses none = Check.of("hail 100;");
        Edge.is("days(60)", none.days(60), 60);
        Edge.is("count(5)", none.count(5), 0);
        SummerHouses never = Check.of(Edge.glazed(20) + "hail 0;");
        never.days(60);
        Edge.is("no HAIL", never.count(5), 0);
    }

    private static void dayEnds() {
        Edge.of(12, "nothing is burnt in any. It is the next day.");
        SummerHouses x = coals(50);
        x.burn(0, 1);
        x.burn(1, 5);
        x.days(1);
        Edge.is("house(0, 6)", x.house(0, 6), 0);
        Edge.is("house(1, 6)", x.house(1, 6), 0);
        Edge.is("count(19)", x.count(19), 0);
        Edge.is("count(14): so far", x.count(14), 6);
        Edge.is("count(1)", x.count(1), 1);
        Edge.is("doors stay", Edge.busy().count(6), 4);
    }

    // ---- promise 13

    private static void undoNothing() {
        Edge.of(13, "false: there is none");
        Edge.same(Edge::empty, "undo()", x -> x.undo(), false);
        Edge.same(() -> Check.of(Edge.THREE), "undo()", x -> x.undo(), false);
        SummerHouses x = new SummerHouses();
        x.bring(1);
        Edge.is("undo()", x.undo(), true);
        Edge.is("undo() again", x.undo(), false);
        Edge.is("count(2)", x.count(2), 20);
        Edge.is("count(9)", x.count(9), 0);
    }

    private static void undoForty() {
        Edge.of(13, "(the last 40 can be)");
        for (int things : new int[] {39, 40, 41, 42, 79, 80, 81, 100}) {
            SummerHouses x = new SummerHouses();
            for (int i = 0; i < things; i++) {
                x.bring(1);
                Edge.is("count(9)", x.count(9), Math.min(40, i + 1));
            }
            int can = Math.min(40, things);
            for (int i = 1; i <= can; i++) {
                Edge.is("undo() " + i + " of " + things, x.undo(), true);
                Edge.is("count(2)", x.count(2), 20 + things - i);
                Edge.is("count(9)", x.count(9), can - i);
            }
            Edge.is("undo() " + (can + 1) + " of " + things, x.undo(), false);
            Edge.is("count(2)", x.count(2), 20 + things - can);
            x.bring(5);
            Edge.is("undo() of what is done then", x.undo(), true);
            Edge.is("undo() no more", x.undo(), false);
        }
    }

    /** Things done and undone by turns, so that what is kept to be undone begins anywhere. */
    private static void undoByTurns() {
        Edge.of(13, "there is none (the last 40 can be).");
        for (int ahead = 0; ahead <= 44; ahead++) {
            SummerHouses x = new SummerHouses();
            bringOnes(x, ahead);
            int can = Math.min(40, ahead);
            for (int i = 0; i < can / 2; i++) {
                x.undo();
            }
            int coals = 20 + ahead - can / 2;
            Edge.is("count(2), half undone", x.count(2), coals);
            bringOnes(x, 39);
            int all = Math.min(40, can - can / 2 + 39);
            Edge.is("count(9)", x.count(9), all);
            for (int i = 1; i <= all; i++) {
                x.undo();
                Edge.is("count(2)", x.count(2), coals + 39 - i);
            }
            Edge.is("undo() no further", x.undo(), false);
            Edge.is("count(2) stays", x.count(2), coals + 39 - all);
        }
    }

    private static void bringOnes(SummerHouses x, int times) {
        for (int i = 0; i < times; i++) {
            x.bring(1);
        }
    }

    private static void undoes(String call, Edge.Call done) {
        SummerHouses x = Edge.busy();
        Edge.is(call + " is done", done.answer(x) == NONE, false);
        Edge.is(call + " can be undone", x.count(9), 5);
        Edge.is("undo() of " + call, x.undo(), true);
        Edge.alike("undo() of " + call, x, Edge.busy());
    }

    private static void undoEach() {
        Edge.of(13, "The last thing done (burn, door, mend, cut, bring, days) is undone: true");
        undoes("burn(0, 7)", x -> x.burn(0, 7));
        undoes("door(0, true)", x -> x.door(0, true) ? 1 : NONE);
        undoes("door(2, false)", x -> x.door(2, false) ? 1 : NONE);
        int broken = Edge.busy().house(0, 1) > 0 ? 0 : Edge.busy().house(1, 1) > 0 ? 1 : 2;
        undoes("mend(..)", x -> x.mend(broken));
        undoes("cut(1, 2)", x -> x.cut(1, 2));
        undoes("bring(99)", x -> x.bring(99));
        undoes("days(1)", x -> x.days(1));
        undoes("days(60)", x -> x.days(60));
    }

    private static void whatIsNoThingDone() {
        Edge.of(13, "The last thing done (burn, door, mend, cut, bring, days)");
        SummerHouses x = Edge.busy();
        x.days(0);
        x.tell(1, 1, true);
        x.forget();
        x.hold(0);
        x.back(1);
        x.feed(0, 0, 0, 0, 0);
        x.read();
        x.share(5, 0);
        x.plan(3, 0);
        x.lasts();
        x.then(0, 9, 0);
        Edge.is("count(9)", x.count(9), 4);
        Edge.is("undo()", x.undo(), true);
        Edge.is("the cutting is undone", x.count(16), 0);
        Edge.is("nothing else", x.count(6), 4);
    }

    private static void undoBehindTextAndRestore() {
        Edge.of(13, "nothing can be undone, nothing is TOLD, SLOTS hold nothing.");
        SummerHouses x = Edge.busy();
        x.back(x.count(8));
        Edge.is("read()", x.read(), 0);
        Edge.is("undo() behind a text", x.undo(), false);
        SummerHouses y = Edge.busy();
        Edge.is("restore(1)", y.restore(1), true);
        Edge.is("undo() behind restore", y.undo(), false);
        y.bring(1);
        Edge.is("undo()", y.undo(), true);
        Edge.is("undo() no further", y.undo(), false);
    }
}
