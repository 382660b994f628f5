/** Boundaries of promises 36 to 42: what is TOLD and KNOWN, SLOTS, and what is counted. */
public final class ToldEdgesTest {
    private static final int NONE = Edge.NONE;
    private static final int NOT = -2;
    private static final int[] NO_SLOTS = {-1, 3, Edge.MIN, Edge.MAX};

    public static void main(String[] args) {
        tellMarksAndValues();
        tellTwenty();
        forget();
        whoseKnown();
        whoseAtLeast();
        whoseNow();
        lookKnown();
        lookAtWorst();
        hold();
        holdWhatGoesOn();
        restore();
        restoreStays();
        countWhats();
        countEmpty();
        countMost();
        Edge.end("ToldEdgesTest", 36, 42);
    }

    // ---- promises 36 and 37

    private static void tellMarksAndValues() {
        Edge.of(36, "that a mark (0 PANES, 1 HEAT, 2 KEPT, 3 broken) of a HOUSE unknown is v (0 .. 999) or more now, or is not");
        SummerHouses x = new SummerHouses();
        for (int mark = 0; mark < 4; mark++) {
            Edge.is("tell(" + mark + ", 0, true)", x.tell(mark, 0, true), 2 * mark);
            Edge.is("tell(" + mark + ", 999, false)", x.tell(mark, 999, false), 2 * mark + 1);
        }
        Edge.of(36, "It is TOLD: its number; NONE, and nothing happens: 20 are there, no such mark, no such v.");
        for (int mark : new int[] {-1, 4, Edge.MIN, Edge.MAX}) {
            Edge.refused(Edge::busy, "tell(" + mark + ", 1, true)", y -> y.tell(mark, 1, true));
            Edge.refused(Edge::empty, "tell(" + mark + ", 1, false)", y -> y.tell(mark, 1, false));
        }
        for (int v : new int[] {-1, 1000, Edge.MIN, Edge.MAX}) {
            Edge.refused(Edge::busy, "tell(0, " + v + ", true)", y -> y.tell(0, v, true));
            Edge.refused(Edge::empty, "tell(3, " + v + ", false)", y -> y.tell(3, v, false));
        }
    }

    /** Six houses of 0 .. 50 kept, and so many told: that 10 and more is kept, then what is so of each. */
    private static SummerHouses told(int n) {
        SummerHouses x = Check.of(Edge.keeping(0, 10, 20, 30, 40, 50));
        for (int i = 0; i < n; i++) {
            x.tell(2, i == 0 ? 10 : 0, true);
        }
        return x;
    }

    private static void tellTwenty() {
        Edge.of(36, "20 at most, numbered from 0 on");
        SummerHouses x = told(0);
        for (int i = 0; i < 20; i++) {
            Edge.is("tell(..)", x.tell(i % 4, 0, true), i);
            Edge.is("count(10)", x.count(10), i + 1);
        }
        Edge.is("a 21st", x.tell(0, 0, true), NONE);
        Edge.is("count(10)", x.count(10), 20);
        Edge.is("the 20th counts", told(19).tell(2, 30, true), 19);
        Edge.refused(() -> told(20), "tell(2, 999, true) beyond 20", y -> y.tell(2, 999, true));
        Edge.refused(() -> told(20), "tell(9, 9999, true) beyond 20", y -> y.tell(9, 9999, true));
        SummerHouses again = told(20);
        again.forget();
        Edge.is("tell(..) once they are forgotten", again.tell(2, 10, true), 0);
    }

    private static void forget() {
        Edge.of(37, "All that was TOLD is forgotten: how many there were.");
        Edge.same(Edge::empty, "forget() of none", x -> x.forget(), 0);
        Edge.same(() -> told(0), "forget() of none", x -> x.forget(), 0);
        for (int n : new int[] {1, 19, 20}) {
            SummerHouses x = told(n);
            Edge.is("forget() of " + n, x.forget(), n);
            Edge.is("count(10)", x.count(10), 0);
            Edge.is("whose(1, 0)", x.whose(1, 0), NONE);
            Edge.is("whose(0, 0)", x.whose(0, 0), 6);
            Edge.is("forget() again", x.forget(), 0);
            Edge.alike("nothing else happens", x, told(0));
        }
        SummerHouses y = Edge.busy();
        y.forget();
        Edge.is("no thing is undone by it", y.count(9), 4);
        Edge.is("undo() does not bring it back", y.undo(), true);
        Edge.is("count(10)", y.count(10), 0);
    }

    // ---- promises 38 and 39

    private static void whoseKnown() {
        Edge.of(38, "KNOWN by k: the first k.");
        SummerHouses x = told(0);
        x.tell(2, 10, true);
        x.tell(2, 50, false);
        x.tell(2, 30, true);
        int[] bits = {63, 62, 30, 24};
        for (int k = 0; k <= 3; k++) {
            Edge.is("whose(" + k + ", 1)", x.whose(k, 1), bits[k]);
            Edge.is("whose(" + k + ", 0)", x.whose(k, 0), Integer.bitCount(bits[k]));
        }
        Edge.is("whose(4, 1)", x.whose(4, 1), NONE);
        Edge.of(38, "what 0 how many, 1 which (bits); NONE: no such ones.");
        Edge.same(Edge::busy, "whose(0, 0)", y -> y.whose(0, 0), 3);
        Edge.same(Edge::busy, "whose(0, 1)", y -> y.whose(0, 1), 7);
        Edge.same(Edge::busy, "whose(2, 1) is there", y -> y.whose(2, 1) == NONE, false);
        for (int k : new int[] {-1, 3, 20, 21, Edge.MIN, Edge.MAX}) {
            Edge.refused(Edge::busy, "whose(" + k + ", 0)", y -> y.whose(k, 0));
            Edge.refused(Edge::busy, "whose(" + k + ", 1)", y -> y.whose(k, 1));
        }
        for (int what : new int[] {-1, 2, Edge.MIN, Edge.MAX}) {
            Edge.refused(Edge::busy, "whose(0, " + what + ")", y -> y.whose(0, what));
        }
        Edge.same(() -> told(20), "whose(20, 1)", y -> y.whose(20, 1), 62);
        Edge.refused(() -> told(20), "whose(21, 1)", y -> y.whose(21, 1));
        Edge.same(Edge::empty, "whose(0, 0) of none", y -> y.whose(0, 0), 0);
        Edge.same(Edge::empty, "whose(0, 1) of none", y -> y.whose(0, 1), 0);
        Edge.refused(Edge::empty, "whose(1, 0) of none", y -> y.whose(1, 0));
    }

    private static int whoseBy(String text, int mark, int v, boolean so) {
        SummerHouses x = Check.of(text);
        x.days(1);
        x.tell(mark, v, so);
        return x.whose(1, 1);
    }

    private static void whoseAtLeast() {
        Edge.of(38, "HOUSES of which all that is KNOWN is so: how many; which (bits).");
        // On day 1 house 0 has a broken pane; the others are 1 more in each mark.
        String two = "house a 5 6 7 0 0; house b 6 7 8 0 0; cools = 0; fades = 0; hail 100; seed 4;";
        int[][] markAndValue = {{0, 5}, {1, 6}, {2, 7}};
        for (int[] one : markAndValue) {
            for (int more = 0; more <= 2; more++) {
                int bits = more == 0 ? 3 : more == 1 ? 2 : 0;
                Edge.is("mark " + one[0] + " is " + (one[1] + more) + " or more", whoseBy(two, one[0], one[1] + more, true), bits);
                Edge.is("mark " + one[0] + " is not", whoseBy(two, one[0], one[1] + more, false), 3 - bits);
            }
        }
        Edge.is("broken is 0 or more", whoseBy(two, 3, 0, true), 3);
        Edge.is("broken is 1 or more", whoseBy(two, 3, 1, true), 1);
        Edge.is("broken is 2 or more", whoseBy(two, 3, 2, true), 0);
        Edge.is("broken is not 1 or more", whoseBy(two, 3, 1, false), 2);
        Edge.is("broken is not 0 or more", whoseBy(two, 3, 0, false), 0);
        Edge.is("KEPT is 999 or more", whoseBy(Edge.keeping(998, 999) + "fades = 0;", 2, 999, true), 2);
    }

    private static void whoseNow() {
        Edge.of(38, "is v (0 .. 999) or more now");
        SummerHouses x = Check.of(Edge.keeping(10, 11) + "fades = 1;");
        x.tell(2, 10, true);
        Edge.is("whose(1, 1)", x.whose(1, 1), 3);
        x.days(1);
        Edge.is("whose(1, 1) a day behind", x.whose(1, 1), 2);
        x.days(1);
        Edge.is("whose(1, 1) two days behind", x.whose(1, 1), 0);
        x.undo();
        Edge.is("whose(1, 1), undone", x.whose(1, 1), 2);
    }

    private static void lookKnown() {
        Edge.of(39, "LOOK by v (0 .. 999), as KNOWN by k; -2: none is left; NONE: no such ones.");
        Edge.same(Edge::busy, "look(0, 0)", x -> x.look(0, 0), 0);
        Edge.same(Edge::busy, "look(0, 999)", x -> x.look(0, 999), 0);
        Edge.same(Edge::busy, "look(2, 0) is there", x -> x.look(2, 0) == NONE, false);
        for (int v : new int[] {-1, 1000, Edge.MIN, Edge.MAX}) {
            Edge.refused(Edge::busy, "look(0, " + v + ")", x -> x.look(0, v));
            Edge.refused(Edge::empty, "look(0, " + v + ") of none", x -> x.look(0, v));
        }
        for (int k : new int[] {-1, 3, 21, Edge.MIN, Edge.MAX}) {
            Edge.refused(Edge::busy, "look(" + k + ", 1)", x -> x.look(k, 1));
        }
        Edge.same(Edge::empty, "look(0, 0) of none", x -> x.look(0, 0), NOT);
        Edge.refused(Edge::empty, "look(1, 0) of none", x -> x.look(1, 0));
        Edge.same(() -> told(20), "look(20, 30)", x -> x.look(20, 30), 2);
        Edge.refused(() -> told(20), "look(21, 30)", x -> x.look(21, 30));
        SummerHouses one = told(0);
        one.tell(2, 50, true);
        one.tell(2, 51, true);
        Edge.is("look(1, 7): one is left", one.look(1, 7), 0);
        Edge.is("look(2, 7): none is left", one.look(2, 7), NOT);
        Edge.is("look(0, 7): by none that is told", one.look(0, 7), 2);
    }

    private static void lookAtWorst() {
        Edge.of(39, "the mark of which, once it is told so, fewest are left, at worst; of alike ones the first");
        // By 10: PANES part 1 from 3, HEAT 2 from 2, KEPT 3 from 1.
        SummerHouses x = Check.of("house a 10 10 10 0 0; house b 9 10 10 0 0; house c 9 9 10 0 0; house d 9 9 9 0 0;");
        Edge.is("look(0, 10): HEAT", x.look(0, 10), 1);
        Edge.is("look(0, 9): none does", x.look(0, 9), 0);
        Edge.is("look(0, 11): none does", x.look(0, 11), 0);
        x.tell(2, 10, true);
        Edge.is("look(1, 10): PANES and HEAT, alike", x.look(1, 10), 0);
        x.tell(0, 10, false);
        Edge.is("look(2, 10): HEAT", x.look(2, 10), 1);
        SummerHouses kept = Check.of("house a 5 5 5 0 0; house b 5 5 4 0 0;");
        Edge.is("look(0, 5): KEPT", kept.look(0, 5), 2);
        SummerHouses both = Check.of("house a 5 5 5 0 0; house b 5 4 4 0 0;");
        Edge.is("look(0, 5): HEAT and KEPT, alike", both.look(0, 5), 1);
        SummerHouses broken = Check.of("house a 5 5 5 0 0; house b 5 5 5 0 0; cools = 0; fades = 0; hail 100;");
        Edge.is("look(0, 1): none does", broken.look(0, 1), 0);
        broken.days(1);
        Edge.is("look(0, 1): broken", broken.look(0, 1), 3);
        Edge.is("look(0, 2): none does", broken.look(0, 2), 0);
    }

    // ---- promises 40 and 41

    private static void hold() {
        Edge.of(40, "is held in a SLOT (0 .. 2): true; false: no such one.");
        SummerHouses x = Edge.empty();
        for (int slot = 0; slot < 3; slot++) {
            Edge.is("hold(" + slot + ")", x.hold(slot), true);
            Edge.is("count(11)", x.count(11), slot + 1);
        }
        Edge.is("hold(2) again", x.hold(2), true);
        Edge.is("count(11)", x.count(11), 3);
        for (int slot : NO_SLOTS) {
            Edge.same(Edge::busy, "hold(" + slot + ")", y -> y.hold(slot), false);
            Edge.same(Edge::empty, "hold(" + slot + ")", y -> y.hold(slot), false);
        }
    }

    private static void holdWhatGoesOn() {
        Edge.of(40, "All that goes on (not what is TOLD, nor the tape) is held");
        SummerHouses x = Edge.busy();
        Edge.is("hold(0)", x.hold(0), true);
        Edge.is("count(9): it is no thing done", x.count(9), 4);
        int[] counts = new int[20];
        int[] houses = new int[39];
        for (int what = 0; what < 20; what++) {
            counts[what] = x.count(what);
        }
        for (int i = 0; i < 39; i++) {
            houses[i] = x.house(i / 13, i % 13);
        }
        x.days(9);
        x.burn(0, 3);
        x.door(1, true);
        x.door(2, false);
        x.cut(2, 0);
        x.bring(9);
        x.mend(0);
        x.tell(1, 1, true);
        x.back(2);
        Edge.is("restore(0)", x.restore(0), true);
        counts[8] -= 2;
        counts[9] = 0;
        counts[10]++;
        for (int what = 0; what < 20; what++) {
            Edge.is("count(" + what + ")", x.count(what), counts[what]);
        }
        for (int i = 0; i < 39; i++) {
            Edge.is("house(" + i / 13 + ", " + i % 13 + ")", x.house(i / 13, i % 13), houses[i]);
        }
    }

    private static void restore() {
        Edge.of(41, "false, and nothing happens: no such one, nothing is held.");
        Edge.is("restore(1), held", Edge.busy().restore(1), true);
        Edge.same(Edge::busy, "restore(0), nothing is held", x -> x.restore(0), false);
        Edge.same(Edge::busy, "restore(2), nothing is held", x -> x.restore(2), false);
        for (int slot : NO_SLOTS) {
            Edge.same(Edge::busy, "restore(" + slot + ")", x -> x.restore(slot), false);
        }
        for (int slot = 0; slot < 3; slot++) {
            int each = slot;
            Edge.same(Edge::empty, "restore(" + slot + "), nothing is held", x -> x.restore(each), false);
        }
        SummerHouses x = Edge.busy();
        x.back(x.count(8));
        x.read();
        Edge.is("restore(1) behind a text", x.restore(1), false);
        SummerHouses y = Edge.busy();
        Check.read(y, "?");
        Edge.is("restore(1) behind a text with a FAULT", y.restore(1), true);
    }

    private static void restoreStays() {
        Edge.of(41, "It goes on from what a SLOT holds (that stays there; nothing can be undone then): true");
        SummerHouses x = Check.of("coals 1;");
        for (int slot = 0; slot < 3; slot++) {
            x.hold(slot);
            x.bring(1);
        }
        Edge.is("count(9)", x.count(9), 3);
        for (int round = 0; round < 2; round++) {
            for (int slot = 2; slot >= 0; slot--) {
                Edge.is("restore(" + slot + ")", x.restore(slot), true);
                Edge.is("count(2)", x.count(2), 1 + slot);
                Edge.is("count(9)", x.count(9), 0);
                Edge.is("undo()", x.undo(), false);
                x.bring(50);
                Edge.is("what is done then can be", x.count(9), 1);
            }
        }
        Edge.is("count(11)", x.count(11), 3);
        Edge.is("hold(1), in its place", x.hold(1), true);
        x.undo();
        Edge.is("restore(1)", x.restore(1), true);
        Edge.is("count(2)", x.count(2), 51);
        // What was done behind hold() is undone without it.
        SummerHouses y = Check.of("coals 1;");
        y.bring(1);
        y.hold(0);
        Edge.is("undo()", y.undo(), true);
        Edge.is("restore(0)", y.restore(0), true);
        Edge.is("count(2)", y.count(2), 2);
    }

    // ---- promise 42

    private static void countWhats() {
        Edge.of(42, "NONE for others.");
        for (int what : new int[] {-1, 20, Edge.MIN, Edge.MAX}) {
            Edge.refused(Edge::busy, "count(" + what + ")", x -> x.count(what));
            Edge.refused(Edge::empty, "count(" + what + ")", x -> x.count(what));
        }
        Edge.same(Edge::busy, "count(0)", x -> x.count(0), 3);
        Edge.same(Edge::busy, "count(19)", x -> x.count(19), 2);
    }

    private static void countEmpty() {
        Edge.of(42, "0 HOUSES, 1 the day, 2 COALS, 3 KEPT in all, added, 4 HEAT of all, added, 5 broken panes of all");
        int[] none = {0, 0, 20, 0, 0, 0, 0, 0, 0, 0, 0, 0, 0, 0, 0, 0, 0, 0, 20, 0};
        for (int what = 0; what < 20; what++) {
            int each = what;
            Edge.same(Edge::empty, "count(" + what + ") of none", x -> x.count(each), none[what]);
        }
        Edge.of(42, "6 doors open (bits), 7 HOUSES in which nothing is KEPT (bits)");
        SummerHouses x = Check.of(Edge.keeping(0, 1, 0, 2, 999, 0) + "fades = 1;");
        Edge.is("count(6)", x.count(6), 0);
        Edge.is("count(7)", x.count(7), 1 + 4 + 32);
        for (int h = 0; h < 6; h++) {
            x.door(h, true);
            Edge.is("count(6)", x.count(6), (2 << h) - 1);
        }
        x.days(1);
        Edge.is("count(7) a day behind", x.count(7), 1 + 2 + 4 + 32);
        x.days(1);
        Edge.is("count(7) two days behind", x.count(7), 1 + 2 + 4 + 8 + 32);
        Edge.of(42, "17 HOUSES whose HEAT is 0 (bits)");
        SummerHouses y = Check.of("house a 1 0 0 0 0; house b 1 1 0 0 0; house c 1 2 0 0 0; cools = 1;");
        Edge.is("count(17)", y.count(17), 1);
        y.days(1);
        Edge.is("count(17)", y.count(17), 3);
        y.days(1);
        Edge.is("count(17)", y.count(17), 7);
        y.burn(0, 1);
        Edge.is("count(17)", y.count(17), 6);
        Edge.of(42, "12: 1 HAIL today, else 0");
        Edge.is("count(12) by 0", Check.of(Edge.keeping(1) + "hail 0;").count(12), 0);
        Edge.is("count(12) by 49", Check.of(Edge.keeping(1) + "hail 49;").count(12), 0);
        Edge.is("count(12) by 50", Check.of(Edge.keeping(1) + "hail 50;").count(12), 1);
        Edge.is("count(12) by 100", Check.of(Edge.keeping(1) + "hail 100;").count(12), 1);
    }

    private static void countMost() {
        Edge.of(42, "8 bytes on the tape, 9 things that can be undone, 10 TOLD ones, 11 SLOTS that hold something");
        SummerHouses x = Check.of("");
        for (int i = 0; i < 100; i++) {
            x.feed(0, 0, 0, 0, 0);
        }
        x.feed(0, 0, 0, 0, 0);
        for (int i = 0; i < 50; i++) {
            x.bring(1);
            x.tell(0, 0, true);
            x.hold(i % 3);
        }
        Edge.is("count(8)", x.count(8), 2000);
        Edge.is("count(9)", x.count(9), 40);
        Edge.is("count(10)", x.count(10), 20);
        Edge.is("count(11)", x.count(11), 3);
        Edge.of(42, "13 LOSS of all now, added, 14 COALS burnt so far, 15 PANES of all, 16 CUTTINGS so far");
        String six = "";
        for (char name = 'a'; name <= 'f'; name++) {
            six += Edge.house(String.valueOf(name), 20, 99, 999, 99, 99);
        }
        SummerHouses y = Check.of(six + "fades = 9999; warms = 99; coals 999; roof 99;");
        Edge.is("count(3)", y.count(3), 6 * 999);
        Edge.is("count(4)", y.count(4), 6 * 99);
        Edge.is("count(13)", y.count(13), 6 * 999);
        Edge.is("count(15)", y.count(15), 120);
        Edge.is("count(18)", y.count(18), 99);
        for (int i = 0; i < 54; i++) {
            y.burn(i % 6, 10);
        }
        Edge.is("count(4): 999 in each", y.count(4), 6 * 999);
        Edge.is("count(14)", y.count(14), 540);
        Edge.is("count(19)", y.count(19), 540);
        Edge.of(42, "18 ROOF, 19 COALS burnt today.");
        Edge.is("count(18) of one", Check.of("roof 1;").count(18), 1);
        Edge.is("count(18), the last one", Check.of("roof 98; roof 99;").count(18), 99);
        y.undo();
        Edge.is("count(19), undone", y.count(19), 530);
        Edge.is("count(14), undone", y.count(14), 530);
        y.cut(0, 1);
        y.cut(0, 1);
        Edge.is("count(16)", y.count(16), 2);
        y.undo();
        Edge.is("count(16), undone", y.count(16), 1);
        y.days(1);
        Edge.is("count(14): so far", y.count(14), 530);
        Edge.is("count(16): so far", y.count(16), 1);
        Edge.is("count(19): today", y.count(19), 0);
        Edge.is("count(13): nothing is left", y.count(13), 0);
    }
}
