/** Boundaries of promise 6, of the LAWS that it tells, and of the LOTs by which HAIL comes (promises 12 and 42). */
public final class LawEdgesTest {
    private static final int NONE = Edge.NONE;
    private static final String[] LAWS = {"cools", "warms", "fades", "mends"};

    public static void main(String[] args) {
        housesAndWhats();
        heldToBounds();
        fadesHeldToKept();
        firstIfThatHolds();
        wraps();
        roundedTowardsNothing();
        dividedByNothing();
        variables();
        longLaws();
        lotOf100();
        lotOfHouses();
        lotsOfLateDays();
        Edge.end("LawEdgesTest", 6, 6);
    }

    private static SummerHouses six() {
        return Check.of(Edge.keeping(10, 20, 30, 40, 50, 60));
    }

    private static void housesAndWhats() {
        Edge.of(6, "Of a HOUSE: what 0 PANES, 1 broken, 2 HEAT, 3 KEPT, 4: 1 open, else 0, 5 leaves, 6 burnt today, 7 COOLS, 8 WARMS, 9 FADES, 10 MENDS now, 11 X, 12 Y.");
        SummerHouses x = Check.of("house a 3 40 500 7 8; hail 100; mends=2; fades=4; cools=5; warms=6;");
        int[] want = {3, 0, 40, 500, 0, 0, 0, 5, 6, 4, 2, 7, 8};
        for (int what = 0; what <= 12; what++) {
            int each = what;
            Edge.is("house(0, " + what + ")", x.house(0, what), want[what]);
            Edge.same(LawEdgesTest::six, "house(5, " + what + ") is there", y -> y.house(5, each) == NONE, false);
        }
        Edge.of(6, "NONE for others.");
        int[] whats = {-1, 13, Edge.MIN, Edge.MAX};
        for (int what : whats) {
            Edge.refused(Edge::busy, "house(0, " + what + ")", y -> y.house(0, what));
            Edge.refused(Edge::busy, "house(2, " + what + ")", y -> y.house(2, what));
        }
        int[] none = {-1, 3, Edge.MIN, Edge.MAX, 1 << 30};
        for (int house : none) {
            for (int what = 0; what <= 12; what += 4) {
                int each = what;
                Edge.refused(Edge::busy, "house(" + house + ", " + what + ")", y -> y.house(house, each));
            }
        }
        Edge.is("house(5, 3) of six", six().house(5, 3), 60);
        Edge.is("house(6, 3) of six", six().house(6, 3), NONE);
        Edge.refused(Edge::empty, "house(0, 0) of none", y -> y.house(0, 0));
        Edge.refused(Edge::empty, "house(0, 12) of none", y -> y.house(0, 12));
    }

    /** The value of a law in a house 1 of 3 panes, heat 40, kept 500. */
    private static int value(int which, String law) {
        SummerHouses x = Check.of("house z 2 7 9 0 0; house a 3 40 500 0 0;" + LAWS[which] + "=" + law + ";");
        return x.house(1, 7 + which);
    }

    /** All four laws, by a value that is within the bounds of each. */
    private static void law(String law, int want) {
        for (int i = 0; i < 4; i++) {
            Edge.is(LAWS[i] + "=" + law, value(i, law), want);
        }
    }

    /** Where all 32 bits matter: whether a law's E is just this number, which is told by two that are less than it. */
    private static void number(String e, int want) {
        String exact = asTold(want);
        law("if " + e + " < " + exact + " then 1 else if " + exact + " < " + e + " then 2 else 3", 3);
    }

    /** A number as an E, built of INTS that wrap nowhere but where they must. */
    private static String asTold(int n) {
        if (n == Edge.MIN) {
            return "(0-8192*8192*16-8192*8192*16)";
        }
        String sign = n < 0 ? "0-" : "";
        long all = Math.abs((long) n);
        return "(0+" + sign + all / 1000000 + "*1000*1000" + (n < 0 ? "-" : "+") + all / 1000 % 1000 + "*1000"
                + (n < 0 ? "-" : "+") + all % 1000 + ")";
    }

    private static void heldToBounds() {
        Edge.of(6, "COOLS, WARMS, MENDS, held to 0 .. 99");
        for (int i : new int[] {0, 1, 3}) {
            String told = LAWS[i] + " of ";
            Edge.is(told + "0-1", value(i, "0-1"), 0);
            Edge.is(told + "0", value(i, "0"), 0);
            Edge.is(told + "1", value(i, "1"), 1);
            Edge.is(told + "98", value(i, "98"), 98);
            Edge.is(told + "99", value(i, "99"), 99);
            Edge.is(told + "100", value(i, "100"), 99);
            Edge.is(told + "MAX", value(i, asTold(Edge.MAX)), 99);
            Edge.is(told + "MIN", value(i, asTold(Edge.MIN)), 0);
        }
    }

    private static void fadesHeldToKept() {
        Edge.of(6, "FADES, held to 0 .. kept");
        Edge.is("0-1", value(2, "0-1"), 0);
        Edge.is("0", value(2, "0"), 0);
        Edge.is("100", value(2, "100"), 100);
        Edge.is("kept-1", value(2, "kept-1"), 499);
        Edge.is("kept", value(2, "kept"), 500);
        Edge.is("kept+1", value(2, "kept+1"), 500);
        Edge.is("MAX", value(2, asTold(Edge.MAX)), 500);
        Edge.is("MIN", value(2, asTold(Edge.MIN)), 0);
        for (int kept : new int[] {0, 1, 999}) {
            SummerHouses x = Check.of(Edge.keeping(kept) + "fades=9999;");
            Edge.is("9999 of " + kept, x.house(0, 9), kept);
        }
    }

    private static void firstIfThatHolds() {
        Edge.of(6, "the E of the first if that holds (one less than the other), else the last one");
        law("if 1<2 then 5 else 6", 5);
        law("if 2<2 then 5 else 6", 6);
        law("if 3<2 then 5 else 6", 6);
        law("if 0-1<0 then 5 else 6", 5);
        law("if 0<0-1 then 5 else 6", 6);
        law("7", 7);
        for (int holds = 0; holds <= 4; holds++) {
            StringBuilder first = new StringBuilder();
            StringBuilder alone = new StringBuilder();
            for (int i = 0; i < 4; i++) {
                first.append("if ").append(i < holds ? "2" : "1").append("<2 then ").append(10 + i).append(" else ");
                alone.append("if ").append(i == holds ? "1" : "2").append("<2 then ").append(10 + i).append(" else ");
            }
            law(first + "14", 10 + holds);
            law(alone + "14", 10 + holds);
        }
        // Less by 32 bits, though the one without the other does not fit into them.
        law("if " + asTold(Edge.MIN) + "<" + asTold(Edge.MAX) + " then 5 else 6", 5);
        law("if " + asTold(Edge.MAX) + "<" + asTold(Edge.MIN) + " then 5 else 6", 6);
        law("if " + asTold(Edge.MIN) + "<1 then 5 else 6", 5);
    }

    private static void wraps() {
        Edge.of(6, "ints of 32 bits that wrap");
        String max = asTold(Edge.MAX);
        String min = asTold(Edge.MIN);
        number(max + "+0", Edge.MAX);
        number(max + "+1", Edge.MIN);
        number(min + "-0", Edge.MIN);
        number(min + "-1", Edge.MAX);
        number("0-" + min, Edge.MIN);
        number(max + "+" + max, -2);
        number(min + "+" + min, 0);
        number(max + "*2", -2);
        number(max + "*" + max, 1);
        number(min + "*2", 0);
        number(min + "*(0-1)", Edge.MIN);
        number("8192*8*8192*4", Edge.MIN);
        number("8192*8*8192*8", 0);
        number("9999*9999*9999", (int) (9999L * 9999 * 9999));
        number(min + "/(0-1)", Edge.MIN);
        number(max + "/(0-1)", -Edge.MAX);
        number(min + "/2", -(1 << 30));
        number(min + "/" + min, 1);
        number(max + "/" + min, 0);
        law("9999*9999*9999", 0);
        law(max + "+2-" + min + "+40", 41);
    }

    private static void roundedTowardsNothing() {
        Edge.of(6, "/ rounded towards 0");
        number("7/2", 3);
        number("(0-7)/2", -3);
        number("7/(0-2)", -3);
        number("(0-7)/(0-2)", 3);
        number("1/2", 0);
        number("(0-1)/2", 0);
        number("6/2", 3);
        number("(0-6)/2", -3);
        number("0/7", 0);
        number("9998/9999", 0);
    }

    private static void dividedByNothing() {
        Edge.of(6, "a LAW in which something that is looked at is divided by 0 is 0");
        law("9/1", 9);
        law("9/0", 0);
        law("0/0", 0);
        law("9/(0-1)+20", 11);
        law("9+9/0", 0);
        law("9/0+9", 0);
        law("9+0*(3/0)", 0);
        law("9-(8/(7-7))", 0);
        law("9/(1/2)", 0);
        law("if 9/0<1 then 5 else 6", 0);
        law("if 1<9/0 then 5 else 6", 0);
        law("if 2<1 then 5 else 6/0", 0);
        law("if 1<2 then 5/0 else 6", 0);
        law("if 2<1 then 5 else if 1<1/0 then 6 else 7", 0);
        law("if 2<1 then 5/0 else 6", 6);
        law("if 1<2 then 5 else 6/0", 5);
        law("if 1<2 then 5 else if 1<1/0 then 6 else 7", 5);
        law("if 1<2 then 5 else if 1/0<1 then 6 else 7/0", 5);
        law("if 2<1 then 5/0 else if 1<2 then 6 else 7/0", 6);
        law("9/broken", 0);
        law("9/(broken+1)", 9);
        // One house's law is 0, the other's is not.
        SummerHouses x = Check.of(Edge.keeping(50, 50) + "fades=10/which+3;");
        Edge.is("FADES of 0", x.house(0, 9), 0);
        Edge.is("FADES of 1", x.house(1, 9), 13);
    }

    private static void variables() {
        Edge.of(6, "open: 1 its door is open, 0 shut; day; which: its number; leaves: how many CUTTINGS it got so far; burnt: how many COALS were burnt in it today.");
        SummerHouses x = Check.of(Edge.keeping(900, 900, 900, 900, 900, 900) + "cools=open;warms=0;fades=day*100+leaves*10+burnt;mends=which;");
        for (int h = 0; h < 6; h++) {
            Edge.is("which of " + h, x.house(h, 10), h);
            Edge.is("open of " + h, x.house(h, 7), 0);
        }
        x.door(5, true);
        Edge.is("open of 5", x.house(5, 7), 1);
        Edge.is("open of 4", x.house(4, 7), 0);
        x.door(5, false);
        Edge.is("open of 5, shut", x.house(5, 7), 0);
        Edge.is("FADES of 1", x.house(1, 9), 0);
        x.burn(1, 2);
        x.burn(1, 1);
        Edge.is("burnt of 1", x.house(1, 9), 3);
        Edge.is("burnt of 0", x.house(0, 9), 0);
        x.cut(0, 1);
        x.cut(2, 1);
        Edge.is("leaves of 1", x.house(1, 9), 23);
        Edge.is("leaves of 0", x.house(0, 9), 0);
        x.days(1);
        Edge.is("a day behind", x.house(1, 9), 120);
        Edge.of(6, "panes; broken: how many of these are; heat; kept");
        SummerHouses y = Check.of("house a 20 99 999 0 0;cools=panes;warms=broken;fades=kept;mends=heat;hail 100;");
        Edge.is("panes", y.house(0, 7), 20);
        Edge.is("broken", y.house(0, 8), 0);
        Edge.is("kept", y.house(0, 9), 999);
        Edge.is("heat", y.house(0, 10), 99);
        y.days(1);
        Edge.is("panes, with a broken one", y.house(0, 7), 20);
        Edge.is("broken", y.house(0, 8), 1);
        Edge.is("kept", y.house(0, 9), 0);
        Edge.is("heat", y.house(0, 10), 79);
    }

    private static void longLaws() {
        Edge.of(6, "E: PART {('+' | '-') PART}. PART: UNIT {('*' | '/') UNIT}. UNIT: INT | VAR | '(' E ')'.");
        law("20-5-3", 12);
        law("20-5*3", 5);
        law("40/5/2", 4);
        law("40/5*2", 16);
        law("2*3+4*5", 26);
        law("2*(3+4)*5", 70);
        law("1+(2*(3+(4*(5-(6/(7-4))))))", 1 + 2 * (3 + 4 * (5 - 6 / (7 - 4))));
        // Six brackets, each with a sum and a product that wait for what is within: as deep as a law can be.
        law("if 1+1*(1+1*(1+1*(1+1*(1+1*(1+1*(2*3)))))) < 1+1*(1+1*(1+1*(1+1*(1+1*(1+1*(2*4)))))) then 1+1*(1+1*(1+1*(1+1*(1+1*(1+1*(2*5)))))) else 99", 16);
        SummerHouses x = Check.of("house a 1 0 999 0 0;fades=1" + "+1".repeat(194) + ";");
        Edge.is("a sum of 195", x.house(0, 9), 195);
        SummerHouses y = Check.of("fades=1" + "+1".repeat(194) + ";house a 1 0 999 0 0;");
        Edge.is("a sum of 195, told ahead", y.house(0, 9), 195);
    }

    // ---- LOTs: the numbers here were found by another program, from the document's words

    private static int hail(String text, int day) {
        SummerHouses x = Check.of(text);
        x.days(day);
        return x.count(12);
    }

    private static void lotOf100() {
        Edge.of(12, "if there is HAIL (LOT 100 of the SEED and 4 * the day is less than it)");
        int[][] seedDayLot = {{0, 0, 49}, {1, 0, 33}, {2, 0, 77}, {9998, 0, 21}, {9999, 0, 40}, {0, 1, 52}, {0, 2, 96},
            {0, 59, 48}, {0, 60, 42}, {9999, 1, 95}, {9999, 2, 2}, {9999, 59, 64}, {9999, 60, 47}, {95, 0, 0},
            {230, 0, 0}, {26, 0, 99}, {292, 0, 99}};
        lots(seedDayLot);
        Edge.of(12, "then h and h moved 15 bits down (zeros come in), likewise; the rest of h, moved 1 bit down likewise, by n (32 bits that wrap)");
        // The highest bit of h, ahead of each moving down, is 0 and 0, 0 and 1, 1 and 0, 1 and 1.
        lots(new int[][] {{5, 0, 23}, {10, 0, 60}, {6, 0, 88}, {9, 0, 78}, {4, 0, 9}, {7, 0, 11}, {8, 0, 82}, {11, 0, 6}});
    }

    /** Of a lot it is HAIL by one more than it, and by no less. */
    private static void lots(int[][] seedDayLot) {
        for (int[] one : seedDayLot) {
            String told = "seed " + one[0] + ";hail ";
            Edge.is(told + one[2] + " on day " + one[1], hail(told + one[2] + ";", one[1]), 0);
            Edge.is(told + (one[2] + 1) + " on day " + one[1], hail(told + (one[2] + 1) + ";", one[1]), 1);
        }
    }

    private static void lotOfHouses() {
        Edge.of(12, "in the HOUSE LOT of how many HOUSES there are of the SEED and 4 * the day and 1 a pane breaks");
        int[][] struck = {{0, 0, 0, 0, 0, 0, 0, 0}, {0, 1, 0, 0, 1, 0, 1, 1}, {0, 0, 1, 2, 2, 0, 0, 1},
            {0, 3, 2, 2, 1, 0, 3, 3}, {2, 3, 1, 1, 3, 2, 4, 3}, {0, 3, 4, 2, 5, 0, 3, 1}};
        int[] nines = {9, 9, 9, 9, 9, 9};
        for (int n = 1; n <= 6; n++) {
            SummerHouses x = Check.of(Edge.glazed(java.util.Arrays.copyOf(nines, n)) + "seed 4;hail 100;");
            for (int d = 0; d < 8; d++) {
                int house = struck[n - 1][d];
                int before = x.house(house, 1);
                x.days(1);
                Edge.is("broken of " + n + " on day " + d, x.house(house, 1), before + 1);
                Edge.is("broken of all", x.count(5), d + 1);
            }
        }
    }

    private static void lotsOfLateDays() {
        Edge.of(12, "DAYS are counted on.");
        SummerHouses x = Check.of("seed 9999;hail 50;" + Edge.glazed(20, 20));
        int late = 0;
        for (int i = 0; i < 500; i++) {
            late = x.days(60);
        }
        Edge.is("day", late, 30000);
        Edge.is("HAIL then", x.count(12), Model.lot(100, 9999, 120000) < 50 ? 1 : 0);
        Edge.is("all panes broke", x.count(5), 40);
    }
}
