/** Each promise of the document by examples made by hand: the ordinary, the edges, and wrong inputs. */
public final class PromisesTest {
    private static final int NONE = SummerHouses.NONE;
    private static final int MIN = Integer.MIN_VALUE;
    private static final int MAX = Integer.MAX_VALUE;
    private static final String KIN = "house aunt 4 10 100 0 0; house uncle 6 3 50 3 4; house twin 8 0 95 10 0;"
            + "cools = broken + 2; warms = 3; fades = if heat < 8 then 8 - heat else 0; mends = panes / 4;"
            + "coals 20; roof 12;";
    /** One coal a day, no more and no less, keeps its summer. */
    private static final String ONE = "house a 1 0 100 0 0; warms = 5; cools = 5; fades = if heat < 5 then 10 else 0;";

    public static void main(String[] args) {
        aNewObject();
        feedAndBack();
        readAndPlace();
        house();
        laws();
        burn();
        door();
        mend();
        cut();
        bring();
        days();
        hail();
        undo();
        loss();
        share();
        enough();
        plan();
        worst();
        lasts();
        gone();
        cold();
        far();
        roundAndNext();
        pipes();
        nearest();
        savesAndFirst();
        twins();
        draughty();
        roofs();
        paired();
        summers();
        then();
        year();
        tellAndForget();
        whoseAndLook();
        holdAndRestore();
        count();
        nothingHappensByAsking();
        Check.end("PromisesTest");
    }

    private static void due(String call, long got, long want) {
        Check.due(call, got, want);
    }

    private static void due(String call, boolean got, boolean want) {
        Check.due(call, got, want);
    }

    private static void aNewObject() {
        SummerHouses x = new SummerHouses();
        int[] want = {0, 0, 20, 0, 0, 0, 0, 0, 0, 0, 0, 0, 0, 0, 0, 0, 0, 0, 20, 0};
        for (int what = 0; what < want.length; what++) {
            due("new: count(" + what + ")", x.count(what), want[what]);
        }
        due("new: house(0, 0)", x.house(0, 0), NONE);
        due("new: place()", x.place(), NONE);
        due("new: undo()", x.undo(), false);
        due("new: days(2)", x.days(2), 2);
        due("new: lasts()", x.lasts(), 60);
    }

    private static void feedAndBack() {
        SummerHouses x = new SummerHouses();
        due("back(0)", x.back(0), 0);
        due("back(1)", x.back(1), NONE);
        for (int i = 1; i <= 99; i++) {
            due("feed", x.feed(0, 0, 0, 0, 0), 20 * i);
        }
        due("back(-1)", x.back(-1), NONE);
        due("back(MIN)", x.back(MIN), NONE);
        due("back(MAX)", x.back(MAX), NONE);
        due("back(1)", x.back(1), 1979);
        due("feed to 1999", x.feed(0, 0, 0, 0, 0), 1999);
        due("feed beyond", x.feed(0, 0, 0, 0, 0), NONE);
        due("count(8)", x.count(8), 1999);
        due("back(19)", x.back(19), 1980);
        due("feed to 2000", x.feed(0, 0, 0, 0, 0), 2000);
        due("feed beyond", x.feed(0, 0, 0, 0, 0), NONE);
        due("back(2001)", x.back(2001), NONE);
        due("back(2000)", x.back(2000), 0);
        // "roof" "   7" "1;ho" "use " "a 20": the highest byte first, a first.
        due("feed", x.feed(0x726f6f66, 0x20202037, 0x313b686f, 0x75736520, 0x61203230), 20);
        due("feed", x.feed(0x20312032, 0x20332034, 0x3b808080, -1, -1), 40);
        due("back(11)", x.back(11), 29);
        due("read()", x.read(), 0);
        due("count(18)", x.count(18), 71);
        due("house(0, 0)", x.house(0, 0), 20);
        due("house(0, 12)", x.house(0, 12), 4);
    }

    private static void readAndPlace() {
        SummerHouses x = new SummerHouses();
        due("read()", x.read(), 0);
        due("read", Check.read(x, "roof 3; ;"), 1);
        due("place()", x.place(), 8);
        due("place() again", x.place(), 8);
        due("count(8)", x.count(8), 0);
        due("count(18)", x.count(18), 20);
        due("read", Check.read(x, KIN), 0);
        due("place()", x.place(), NONE);
        due("count(0)", x.count(0), 3);
        x.days(5);
        x.burn(0, 3);
        x.cut(0, 1);
        x.door(2, true);
        due("read", Check.read(x, "coals 3; coals 4; seed 1; roof 5; roof 6; hail 100; hail 0;" + KIN.replace("coals 20;", "")), 0);
        due("count(1)", x.count(1), 0);
        due("count(2)", x.count(2), 4);
        due("count(3)", x.count(3), 245);
        due("count(6)", x.count(6), 0);
        due("count(12)", x.count(12), 0);
        due("count(14)", x.count(14), 0);
        due("count(16)", x.count(16), 0);
        due("count(18)", x.count(18), 12);
        due("house(1, 5)", x.house(1, 5), 0);
        due("house(0, 6)", x.house(0, 6), 0);
        due("empty read()", x.read(), 0);
        due("count(0)", x.count(0), 0);
        due("count(2)", x.count(2), 20);
    }

    private static void house() {
        SummerHouses x = Check.of(KIN);
        int[] want = {6, 0, 3, 50, 0, 0, 0, 2, 3, 5, 1, 3, 4};
        for (int what = 0; what < want.length; what++) {
            due("house(1, " + what + ")", x.house(1, what), want[what]);
        }
        due("house(1, 13)", x.house(1, 13), NONE);
        due("house(1, -1)", x.house(1, -1), NONE);
        due("house(3, 0)", x.house(3, 0), NONE);
        due("house(-1, 0)", x.house(-1, 0), NONE);
        due("house(MAX, MIN)", x.house(MAX, MIN), NONE);
        due("house(MIN, MAX)", x.house(MIN, MAX), NONE);
        x.burn(1, 1);
        x.door(1, true);
        x.cut(0, 1);
        due("heat", x.house(1, 2), 6);
        due("kept", x.house(1, 3), 60);
        due("open", x.house(1, 4), 1);
        due("leaves", x.house(1, 5), 1);
        due("burnt", x.house(1, 6), 1);
    }

    private static void law(String law, int cools, int warms, int fades, int mends) {
        SummerHouses x = Check.of("house z 2 7 9 0 0; house a 3 40 50 0 0; cools=" + law + ";warms=" + law
                + ";fades=" + law + ";mends=" + law + ";");
        x.days(0);
        due("COOLS = " + law, x.house(1, 7), cools);
        due("WARMS = " + law, x.house(1, 8), warms);
        due("FADES = " + law, x.house(1, 9), fades);
        due("MENDS = " + law, x.house(1, 10), mends);
    }

    private static void law(String law, int value) {
        law(law, value, value, value, value);
    }

    private static void laws() {
        SummerHouses untold = Check.of("house a 3 40 50 0 0;");
        due("COOLS untold", untold.house(0, 7), 1);
        due("WARMS untold", untold.house(0, 8), 5);
        due("FADES untold", untold.house(0, 9), 1);
        due("MENDS untold", untold.house(0, 10), 1);
        law("panes", 3);
        law("broken", 0);
        law("heat", 40);
        law("kept", 50);
        law("open+day+leaves+burnt", 0);
        law("which", 1);
        law("1+2*3", 7);
        law("20-5-3", 12);
        law("40/5/2", 4);
        law("40/(5/2)", 20);
        law("7-9", 0);
        law("(0-7)/2+10", 7);
        law("100", 99, 99, 50, 99);
        law("9999*9999*9999*9999", 0 + clamp(99), clamp(99), clamp(50), clamp(99));
        law("if 1<2 then 5 else 6", 5);
        law("if 2<2 then 5 else 6", 6);
        law("if 3<2 then 5 else if heat<41 then 7 else 8", 7);
        law("if 3<2 then 5/0 else 6", 6);
        law("if 1<2 then 5 else 6/0", 5);
        law("if 1<2 then 5 else if 1<1/0 then 7 else 6", 5);
        law("if 1<1/0 then 5 else 6", 0);
        law("if 1/0<1 then 5 else 6", 0);
        law("8+0*(3/broken)", 0);
        law("0/5+3", 3);
        law("if 0-1<0 then 4 else 2", 4);
        SummerHouses last = Check.of("house a 3 40 50 0 0; cools=9; cools=4; warms=1; cools=if heat<41 then 6 else 2;");
        due("the last COOLS", last.house(0, 7), 6);
        due("WARMS beside it", last.house(0, 8), 1);
        // 65536 * 32768 is -2147483648, and by -1 it stays that.
        law("if 8192*8*8192*4<0 then 3 else 4", 3);
        law("if 8192*8*8192*4/(0-1)<0 then 3 else 4", 3);
        law("if 8192*8*8192*8<1 then 3 else 4", 3);
        law("8192*8*8192*4-1-9999*9999*21+9999", 99, 99, 50, 99);
    }

    /** 9999 four times by itself, as 32 bits that wrap, held to 0 .. most. */
    private static int clamp(int most) {
        int v = 1;
        for (int i = 0; i < 4; i++) {
            v *= 9999;
        }
        return Math.max(0, Math.min(most, v));
    }

    private static void burn() {
        SummerHouses x = Check.of(KIN);
        due("burn(1, 2)", x.burn(1, 2), 9);
        due("count(2)", x.count(2), 18);
        due("count(14)", x.count(14), 2);
        due("count(19)", x.count(19), 2);
        due("burn(1, 0)", x.burn(1, 0), NONE);
        due("burn(1, -1)", x.burn(1, -1), NONE);
        due("burn(1, 19)", x.burn(1, 19), NONE);
        due("burn(3, 1)", x.burn(3, 1), NONE);
        due("burn(-1, 1)", x.burn(-1, 1), NONE);
        due("burn(1, MIN)", x.burn(1, MIN), NONE);
        due("count(9)", x.count(9), 1);
        due("burn(0, 18)", x.burn(0, 18), 64);
        due("burn(0, 1)", x.burn(0, 1), NONE);
        SummerHouses y = Check.of("house a 1 90 5 0 0; warms = 20 - burnt * 4; coals 999;");
        due("each by how it is then", y.burn(0, 2), 126);
        due("burn(0, 99)", y.burn(0, 99), 126 + 12 + 8 + 4);
        due("burn(0, 100)", y.burn(0, 100), NONE);
        SummerHouses z = Check.of("house a 1 90 5 0 0; warms = 99; coals 999;");
        due("burn(0, 9)", z.burn(0, 9), 981);
        due("999 at most", z.burn(0, 1), 999);
        due("999 at most", z.burn(0, 1), 999);
        due("house(0, 6)", z.house(0, 6), 11);
    }

    private static void door() {
        SummerHouses x = Check.of(KIN);
        due("door(2, true)", x.door(2, true), true);
        due("door(2, true) again", x.door(2, true), false);
        due("door(0, false)", x.door(0, false), false);
        due("door(3, true)", x.door(3, true), false);
        due("door(-1, true)", x.door(-1, true), false);
        due("door(0, true)", x.door(0, true), true);
        due("count(6)", x.count(6), 5);
        due("count(9)", x.count(9), 2);
        due("door(2, false)", x.door(2, false), true);
        due("count(6)", x.count(6), 1);
    }

    private static void mend() {
        SummerHouses x = Check.of("house a 2 50 5 0 0; hail 100; coals 7; mends = if day < 4 then 3 else 0;");
        due("none is broken", x.mend(0), NONE);
        due("mend(1)", x.mend(1), NONE);
        due("mend(-1)", x.mend(-1), NONE);
        x.days(1);
        due("mend(0)", x.mend(0), 3);
        due("count(2)", x.count(2), 4);
        due("count(14)", x.count(14), 0);
        due("house(0, 1)", x.house(0, 1), 0);
        due("mend(0)", x.mend(0), NONE);
        x.days(2);
        due("house(0, 1)", x.house(0, 1), 2);
        due("mend(0)", x.mend(0), 3);
        due("too few", x.mend(0), NONE);
        due("house(0, 1)", x.house(0, 1), 1);
        due("count(9)", x.count(9), 4);
        x.days(1);
        due("for nothing", x.mend(0), 0);
        due("count(2)", x.count(2), 1);
    }

    private static void cut() {
        SummerHouses x = Check.of("house a 1 0 99 0 0; house b 1 0 995 0 0; house c 1 0 9 0 0;");
        due("cut(0, 1)", x.cut(0, 1), 9);
        due("house(0, 3)", x.house(0, 3), 90);
        due("what is more is gone", x.house(1, 3), 999);
        due("leaves", x.house(1, 5), 1);
        due("cut(2, 0)", x.cut(2, 0), 0);
        due("leaves", x.house(0, 5), 1);
        due("count(16)", x.count(16), 2);
        due("cut(0, 0)", x.cut(0, 0), NONE);
        due("cut(0, 3)", x.cut(0, 3), NONE);
        due("cut(3, 0)", x.cut(3, 0), NONE);
        due("cut(-1, 0)", x.cut(-1, 0), NONE);
        due("cut(1, 2)", x.cut(1, 2), 99);
        due("house(2, 3)", x.house(2, 3), 108);
        due("count(16)", x.count(16), 3);
        due("count(9)", x.count(9), 3);
    }

    private static void bring() {
        SummerHouses x = Check.of("coals 999;");
        due("bring(0)", x.bring(0), NONE);
        due("bring(100)", x.bring(100), NONE);
        due("bring(MIN)", x.bring(MIN), NONE);
        due("bring(1)", x.bring(1), 1000);
        for (int i = 1; i <= 90; i++) {
            due("bring(99)", x.bring(99), 1000 + 99 * i);
        }
        due("bring(89)", x.bring(89), 9999);
        due("9,999 at most", x.bring(5), 9999);
        due("undo()", x.undo(), true);
        due("undo()", x.undo(), true);
        due("count(2)", x.count(2), 9910);
        due("9,999 at most", x.bring(99), 9999);
    }

    private static void days() {
        SummerHouses x = Check.of(KIN);
        due("days(0)", x.days(0), 0);
        due("count(9)", x.count(9), 0);
        due("days(-1)", x.days(-1), NONE);
        due("days(61)", x.days(61), NONE);
        x.burn(2, 1);
        x.door(0, true);
        due("days(1)", x.days(1), 1);
        due("cooler, twice by its door", x.house(0, 2), 6);
        due("cooler", x.house(1, 2), 1);
        due("cooler", x.house(2, 2), 1);
        due("kept", x.house(0, 3), 100);
        due("kept, by the heat as the day began", x.house(1, 3), 45);
        due("kept", x.house(2, 3), 90);
        due("nothing is burnt", x.house(2, 6), 0);
        due("count(14)", x.count(14), 1);
        due("days(2)", x.days(2), 3);
        due("0 at least", x.house(0, 2), 0);
        due("kept", x.house(0, 3), 100 - 2 - 6);
        due("kept", x.house(1, 3), 45 - 7 - 8);
        due("count(9)", x.count(9), 4);
        due("undo()", x.undo(), true);
        due("count(1)", x.count(1), 1);
        due("days(60)", x.days(60), 61);
        SummerHouses y = Check.of("house a 1 50 900 0 0; cools = kept / 100; fades = heat + burnt * 100;");
        y.burn(0, 2);
        due("days(1)", y.days(1), 1);
        due("both by how it was", y.house(0, 2), 60 - 9);
        due("both by how it was", y.house(0, 3), 900 - 260);
    }

    private static void hail() {
        String three = "house a 1 0 1 0 0; house b 2 0 1 0 0; house c 3 0 1 0 0;";
        SummerHouses x = Check.of(three + "seed 77; hail 40;");
        int[] on = {1, 1, 0, 0, 0, 1, 0, 0, 0, 1, 0, 0};
        for (int d = 0; d < on.length; d++) {
            due("HAIL on day " + d, x.count(12), on[d]);
            x.days(1);
        }
        due("broken", x.house(0, 1), 1);
        due("broken", x.house(1, 1), 2);
        due("broken", x.house(2, 1), 1);
        due("count(5)", x.count(5), 4);
        SummerHouses six = Check.of("house a 20 0 1 0 0; house b 20 0 1 0 0; house c 20 0 1 0 0; house d 20 0 1 0 0;"
                + "house e 20 0 1 0 0; house f 20 0 1 0 0; seed 9999; hail 50;");
        due("days(20)", six.days(20), 20);
        int[] broken = {0, 2, 2, 3, 1, 2};
        for (int h = 0; h < 6; h++) {
            due("broken", six.house(h, 1), broken[h]);
        }
        SummerHouses one = Check.of("house a 3 0 1 0 0; hail 100;");
        one.days(9);
        due("no more than there are", one.house(0, 1), 3);
        SummerHouses none = Check.of("hail 100;");
        due("HAIL without HOUSES", none.count(12), 1);
        due("days(5)", none.days(5), 5);
        SummerHouses zero = Check.of("house a 3 0 1 0 0; hail 0;");
        zero.days(60);
        due("no HAIL", zero.house(0, 1), 0);
    }

    private static void undo() {
        SummerHouses x = Check.of(KIN);
        x.burn(0, 2);
        x.door(0, true);
        x.cut(0, 1);
        x.bring(9);
        x.days(4);
        due("count(9)", x.count(9), 5);
        due("undo days", x.undo(), true);
        due("day", x.count(1), 0);
        due("burnt", x.house(0, 6), 2);
        due("undo bring", x.undo(), true);
        due("coals", x.count(2), 18);
        due("undo cut", x.undo(), true);
        due("kept", x.house(0, 3), 100);
        due("cuttings", x.count(16), 0);
        due("undo door", x.undo(), true);
        due("doors", x.count(6), 0);
        due("undo burn", x.undo(), true);
        due("coals", x.count(2), 20);
        due("burnt", x.count(14), 0);
        due("undo nothing", x.undo(), false);
        for (int i = 0; i < 45; i++) {
            x.bring(1);
        }
        due("count(9)", x.count(9), 40);
        for (int i = 0; i < 40; i++) {
            due("undo bring", x.undo(), true);
        }
        due("undo no more than 40", x.undo(), false);
        due("coals", x.count(2), 25);
        x.bring(1);
        due("count(9)", x.count(9), 1);
        due("undo bring", x.undo(), true);
        SummerHouses y = Check.of("house a 3 0 1 0 0; hail 100;");
        y.days(1);
        y.mend(0);
        due("undo mend", y.undo(), true);
        due("broken", y.house(0, 1), 1);
        due("coals", y.count(2), 20);
    }

    private static void loss() {
        SummerHouses x = Check.of(KIN);
        due("loss(2, 0)", x.loss(2, 0), 8);
        due("loss(2, 1)", x.loss(2, 1), 5);
        due("loss(2, 30), whatever coals there are", x.loss(2, 30), 0);
        due("loss(2, 31)", x.loss(2, 31), NONE);
        due("loss(2, -1)", x.loss(2, -1), NONE);
        due("loss(3, 0)", x.loss(3, 0), NONE);
        due("loss(-1, 0)", x.loss(-1, 0), NONE);
        SummerHouses y = Check.of("house a 1 0 7 0 0; fades = burnt * 3;");
        due("held to what is kept", y.loss(0, 3), 7);
        due("loss(0, 2)", y.loss(0, 2), 6);
        y.burn(0, 1);
        due("with what was burnt", y.loss(0, 1), 6);
    }

    private static void share() {
        SummerHouses x = Check.of(KIN);
        due("share(0, NONE)", x.share(0, NONE), 13);
        due("share(2, NONE)", x.share(2, NONE), 7);
        due("share(2, 0)", x.share(2, 0), 0);
        due("share(2, 1)", x.share(2, 1), 0);
        due("share(2, 2)", x.share(2, 2), 2);
        due("share(30, NONE)", x.share(30, NONE), 0);
        due("share(30, 1)", x.share(30, 1), 2);
        due("share(30, 2)", x.share(30, 2), 3);
        due("share(31, NONE)", x.share(31, NONE), NONE);
        due("share(-1, NONE)", x.share(-1, NONE), NONE);
        due("share(3, 3)", x.share(3, 3), NONE);
        due("share(3, -2)", x.share(3, -2), NONE);
        // Only three coals at once help a; one helps b a little.
        SummerHouses y = Check.of("house a 1 0 50 0 0; house b 1 0 50 0 0; warms = 1;"
                + "fades = if which < 1 then 10 - burnt / 3 * 10 else 9 - burnt;");
        due("share(2, NONE)", y.share(2, NONE), 17);
        due("share(2, 0)", y.share(2, 0), 0);
        due("share(2, 1)", y.share(2, 1), 2);
        due("share(3, NONE)", y.share(3, NONE), 9);
        due("share(3, 0)", y.share(3, 0), 3);
        due("share(3, 1)", y.share(3, 1), 0);
        SummerHouses z = Check.of("house a 1 0 50 0 0; fades = if burnt < 1 then 1 else burnt;");
        due("no more than help", z.share(9, 0), 0);
    }

    private static void enough() {
        SummerHouses x = Check.of(KIN);
        due("enough()", x.enough(), 5);
        x.burn(2, 1);
        due("enough()", x.enough(), 4);
        due("30 just enough", Check.of("house a 1 0 50 0 0; warms = 1; fades = 30 - heat;").enough(), 30);
        due("30 too few", Check.of("house a 1 0 50 0 0; warms = 1; fades = 31 - heat;").enough(), -2);
        due("60 in two", Check.of("house a 1 0 50 0 0; house b 1 0 50 0 0; warms = 1; fades = 30 - heat;").enough(), 60);
        due("nothing kept", Check.of("house a 1 0 0 0 0; fades = 5;").enough(), 0);
        due("fewest, though more would harm", Check.of("house a 1 0 9 0 0; fades = burnt;").enough(), 0);
    }

    private static void plan() {
        SummerHouses x = Check.of(ONE);
        int[][] want = {{70, 0, 0}, {80, 0, 0}, {90, 0, 1}, {100, 1, 1}};
        for (int n = 0; n < want.length; n++) {
            for (int what = 0; what < 3; what++) {
                due("plan(" + n + ", " + what + ")", x.plan(n, what), want[n][what]);
            }
        }
        due("plan(10, 0)", x.plan(10, 0), 100);
        due("plan(10, 1)", x.plan(10, 1), 1);
        due("plan(10, 2)", x.plan(10, 2), 1);
        due("plan(11, 0)", x.plan(11, 0), NONE);
        due("plan(-1, 0)", x.plan(-1, 0), NONE);
        due("plan(1, 3)", x.plan(1, 3), NONE);
        due("plan(1, -1)", x.plan(1, -1), NONE);
        SummerHouses lasting = Check.of(ONE + "cools = 0;");
        due("plan(1, 0)", lasting.plan(1, 0), 100);
        due("plan(1, 1)", lasting.plan(1, 1), 1);
        due("plan(1, 2)", lasting.plan(1, 2), 0);
        SummerHouses tomorrow = Check.of(ONE + "fades = if day * 10 < 10 + heat - heat / 5 * 5 then 0 else if heat < 5 then 4 + day else 0;");
        due("plan(1, 0)", tomorrow.plan(1, 0), 95);
        due("plan(1, 1)", tomorrow.plan(1, 1), 0);
        due("plan(1, 2)", tomorrow.plan(1, 2), 0);
        SummerHouses hails = Check.of("house a 9 0 100 0 0; hail 100; fades = broken * 10 + 1;");
        due("no HAIL", hails.plan(3, 0), 97);
    }

    private static void worst() {
        SummerHouses x = Check.of(KIN);
        due("worst(0)", x.worst(0), 2);
        due("worst(1)", x.worst(1), 8);
        due("worst(2)", x.worst(2), NONE);
        due("worst(-1)", x.worst(-1), NONE);
        SummerHouses y = Check.of("house a 1 0 1 0 0; house b 1 0 5 0 0; house c 1 0 5 0 0; fades = 3;");
        due("of alike ones the first", y.worst(0), 1);
        due("worst(1)", y.worst(1), 3);
        SummerHouses z = Check.of("house a 1 0 0 0 0; house b 1 0 0 0 0;");
        due("none fades", z.worst(0), 0);
        due("none fades", z.worst(1), 0);
        due("no HOUSES", new SummerHouses().worst(0), -2);
        due("no HOUSES", new SummerHouses().worst(1), -2);
        due("no HOUSES", new SummerHouses().worst(2), NONE);
    }

    private static void lasts() {
        due("one a day", Check.of(ONE + "coals 7;").lasts(), 7);
        due("none", Check.of(ONE + "coals 0;").lasts(), 0);
        due("59", Check.of(ONE + "coals 59;").lasts(), 59);
        due("60 at most", Check.of(ONE + "coals 99;").lasts(), 60);
        due("too few for the second", Check.of(ONE + "house b 1 0 100 0 0; coals 7;").lasts(), 3);
        due("what can't be helped gets none", Check.of(ONE + "coals 0; warms = 0;").lasts(), 60);
        due("nothing is kept behind a while", Check.of("house a 1 0 3 0 0; warms = 0; coals 0; fades = 1;").lasts(), 60);
        due("30 in one", Check.of("house a 1 0 9 0 0; warms = 1; cools = 30; fades = 30 - heat; coals 95;").lasts(), 3);
        due("no HAIL", Check.of(ONE + "hail 100; cools = 5 + broken * 9; coals 7;").lasts(), 7);
    }

    private static void gone() {
        SummerHouses x = Check.of("house a 1 0 200 0 0; house b 1 0 201 0 0; house c 1 0 0 0 0; hail 100; fades = 1 + broken;");
        due("gone(0)", x.gone(0), 200);
        due("gone(1)", x.gone(1), -2);
        due("gone(2)", x.gone(2), 0);
        due("gone(3)", x.gone(3), NONE);
        due("gone(-1)", x.gone(-1), NONE);
        SummerHouses y = Check.of("house a 1 9 5 0 0; fades = if heat < 7 then 5 else 0;");
        due("cooling, 9 to 6", y.gone(0), 4);
        y.door(0, true);
        due("by twice", y.gone(0), 3);
    }

    private static void cold() {
        SummerHouses x = Check.of(KIN);
        due("cold(0)", x.cold(0), 5);
        due("cold(1)", x.cold(1), 2);
        due("cold(2)", x.cold(2), 0);
        due("cold(3)", x.cold(3), NONE);
        due("cold(-1)", x.cold(-1), NONE);
        x.door(0, true);
        due("cold(0)", x.cold(0), 3);
        due("not", Check.of("house a 1 1 5 0 0; cools = 0;").cold(0), -2);
        SummerHouses y = Check.of("house a 9 99 5 0 0; hail 100; warms = 99;");
        y.burn(0, 1);
        due("198 days, no HAIL", y.cold(0), 198);
        SummerHouses z = Check.of("house a 9 2 5 0 0; warms = 99;");
        z.burn(0, 2);
        due("200 days", z.cold(0), 200);
        SummerHouses over = Check.of("house a 9 3 5 0 0; warms = 99;");
        over.burn(0, 2);
        due("201 days", over.cold(0), -2);
    }

    private static void far() {
        SummerHouses x = Check.of(KIN);
        due("far(0, 1)", x.far(0, 1), 7);
        due("far(2, 1)", x.far(2, 1), 11);
        due("far(2, 2)", x.far(2, 2), 0);
        due("far(0, 3)", x.far(0, 3), NONE);
        due("far(3, 0)", x.far(3, 0), NONE);
        due("far(-1, 0)", x.far(-1, 0), NONE);
        due("corners", Check.of("house a 1 0 0 0 99; house b 1 0 0 99 0;").far(0, 1), 198);
    }

    private static void roundAndNext() {
        SummerHouses x = Check.of("house a 1 0 0 10 0; house b 1 0 0 0 0; house c 1 0 0 4 0; house d 1 0 0 20 0; house e 1 0 0 16 0; house f 1 0 0 13 0;");
        due("round(0)", x.round(0), 30);
        due("round(1)", x.round(1), 20);
        int[] fromA = {0, 1, 2, 5, 4, 3};
        int[] fromB = {1, 2, 0, 5, 4, 3};
        for (int i = 0; i < 6; i++) {
            due("next(1, " + i + ")", x.next(1, i), fromB[i]);
        }
        // To the left end and back is 10 + 20, whether c is passed going or coming: the lowest comes first.
        for (int i = 0; i < 6; i++) {
            due("next(0, " + i + ")", x.next(0, i), fromA[i]);
        }
        due("next(0, 6)", x.next(0, 6), NONE);
        due("next(0, -1)", x.next(0, -1), NONE);
        due("next(6, 0)", x.next(6, 0), NONE);
        due("round(6)", x.round(6), NONE);
        due("round(-1)", x.round(-1), NONE);
        SummerHouses alike = Check.of("house a 1 0 0 1 1; house b 1 0 0 1 1; house c 1 0 0 1 1;");
        due("round(1)", alike.round(1), 0);
        due("next(1, 1)", alike.next(1, 1), 0);
        due("next(1, 2)", alike.next(1, 2), 2);
        due("next(2, 1)", alike.next(2, 1), 0);
    }

    private static void pipes() {
        due("pipes()", Check.of(KIN).pipes(), 17);
        due("one HOUSE", Check.of("house a 1 0 0 9 9;").pipes(), 0);
        due("a star", Check.of("house a 1 0 0 5 5; house b 1 0 0 5 8; house c 1 0 0 8 5; house d 1 0 0 5 1; house e 1 0 0 0 5;").pipes(), 15);
        due("no HOUSES", new SummerHouses().pipes(), 0);
        due("two parts", Check.of("house a 1 0 0 0 0; house b 1 0 0 90 0; house c 1 0 0 1 0; house d 1 0 0 91 0;").pipes(), 91);
    }

    private static void nearest() {
        SummerHouses x = Check.of(KIN);
        due("nearest(0)", x.nearest(0), 1);
        due("nearest(1)", x.nearest(1), 0);
        due("nearest(2)", x.nearest(2), 0);
        due("nearest(3)", x.nearest(3), NONE);
        due("nearest(-1)", x.nearest(-1), NONE);
        due("of alike ones the first", Check.of("house a 1 0 0 9 0; house b 1 0 0 5 0; house c 1 0 0 1 0;").nearest(1), 0);
        due("no other", Check.of("house a 1 0 0 9 0;").nearest(0), -2);
    }

    private static void savesAndFirst() {
        SummerHouses x = Check.of(KIN);
        due("saves(0)", x.saves(0), 0);
        due("saves(1)", x.saves(1), 3);
        due("saves(3)", x.saves(3), -100000);
        due("saves(-1)", x.saves(-1), -100000);
        due("first(), of alike ones the first", x.first(), 1);
        SummerHouses y = Check.of("house a 1 0 999 0 0; house b 1 0 500 0 0; fades = burnt * 9999;");
        due("below 0", y.saves(0), -999);
        due("first()", y.first(), 1);
        due("first()", new SummerHouses().first(), -2);
    }

    private static void twins() {
        SummerHouses x = Check.of(KIN);
        due("twins(0)", x.twins(0), 2);
        due("twins(1)", x.twins(1), 5);
        due("twins(2)", x.twins(2), NONE);
        due("twins(-1)", x.twins(-1), NONE);
        SummerHouses y = Check.of("house a 1 0 0 0 0; house b 1 0 9 0 0; house c 1 0 4 0 0; house d 1 0 13 0 0;");
        due("of alike ones the first", y.twins(0), 2);
        due("twins(1)", y.twins(1), 4);
        due("alike", Check.of("house a 1 0 7 0 0; house b 1 0 9 0 0; house c 1 0 9 0 0;").twins(0), 12);
        due("there are not two", Check.of("house a 1 0 7 0 0;").twins(0), -2);
        due("there are not two", Check.of("house a 1 0 7 0 0;").twins(1), -2);
        due("there are not two", Check.of("house a 1 0 7 0 0;").twins(2), NONE);
    }

    private static void draughty() {
        SummerHouses x = Check.of(KIN);
        due("draughty(0)", x.draughty(0), 0);
        due("draughty(1)", x.draughty(1), 2);
        x.door(2, true);
        due("draughty(0)", x.draughty(0), 2);
        due("draughty(1)", x.draughty(1), 4);
        due("draughty(2)", x.draughty(2), NONE);
        due("draughty(-1)", x.draughty(-1), NONE);
        due("no HOUSES", new SummerHouses().draughty(0), -2);
        due("no HOUSES", new SummerHouses().draughty(1), -2);
        SummerHouses y = Check.of("house a 1 0 0 0 0; cools = 500;");
        y.door(0, true);
        due("twice 99", y.draughty(1), 198);
    }

    private static void roofs() {
        SummerHouses x = Check.of(KIN);
        int[] want = {0, 0, 1};
        due("roofs(NONE)", x.roofs(NONE), 2);
        for (int i = 0; i < 3; i++) {
            due("roofs(" + i + ")", x.roofs(i), want[i]);
        }
        due("roofs(3)", x.roofs(3), NONE);
        due("roofs(-2)", x.roofs(-2), NONE);
        // Three roofs are just filled, by 4 and 6, 3 and 7, 4 and 6; the first two that fit would be 4 and 3.
        SummerHouses y = Check.of("house a 4 0 0 0 0; house b 3 0 0 0 0; house c 4 0 0 0 0; house d 6 0 0 0 0;"
                + "house e 6 0 0 0 0; house f 7 0 0 0 0; roof 10;");
        int[] full = {0, 1, 2, 0, 2, 1};
        due("roofs(NONE)", y.roofs(NONE), 3);
        for (int i = 0; i < 6; i++) {
            due("roofs(" + i + ")", y.roofs(i), full[i]);
        }
        SummerHouses wide = Check.of("house a 20 0 0 0 0; house b 20 0 0 0 0; roof 19;");
        due("too many PANES", wide.roofs(NONE), -2);
        due("too many PANES", wide.roofs(1), -2);
        due("no such HOUSE", wide.roofs(2), NONE);
        due("just as many", Check.of("house a 20 0 0 0 0; house b 20 0 0 0 0;").roofs(NONE), 2);
        due("no HOUSES", new SummerHouses().roofs(NONE), 0);
        due("no HOUSES", new SummerHouses().roofs(0), NONE);
    }

    private static void paired() {
        SummerHouses x = Check.of("house a 1 0 10 0 0; house b 1 0 20 0 0; house c 1 0 12 0 0; house d 1 0 25 0 0;");
        int[] want = {2, 3, 0, 1};
        due("paired(NONE)", x.paired(NONE), 7);
        for (int i = 0; i < 4; i++) {
            due("paired(" + i + ")", x.paired(i), want[i]);
        }
        due("paired(4)", x.paired(4), NONE);
        due("paired(-2)", x.paired(-2), NONE);
        // 1 3 4 6 9: alone is the one without which the others are closest.
        SummerHouses odd = Check.of("house a 1 0 1 0 0; house b 1 0 3 0 0; house c 1 0 4 0 0; house d 1 0 6 0 0; house e 1 0 9 0 0;");
        int[] with = {1, 0, 3, 2, -2};
        due("paired(NONE)", odd.paired(NONE), 4);
        for (int i = 0; i < 5; i++) {
            due("paired(" + i + ")", odd.paired(i), with[i]);
        }
        SummerHouses alike = Check.of("house a 1 0 5 0 0; house b 1 0 5 0 0; house c 1 0 5 0 0;");
        due("nothing behind all", alike.paired(0), 1);
        due("nothing behind all", alike.paired(2), -2);
        due("no HOUSES", new SummerHouses().paired(NONE), 0);
        due("no HOUSES", new SummerHouses().paired(0), NONE);
    }

    private static void summers() {
        SummerHouses x = Check.of(KIN);
        due("summers(1)", x.summers(1), 3);
        due("summers(95)", x.summers(95), 2);
        due("summers(96)", x.summers(96), 1);
        due("summers(999)", x.summers(999), 0);
        due("summers(0)", x.summers(0), NONE);
        due("summers(1000)", x.summers(1000), NONE);
    }

    private static void then() {
        SummerHouses x = Check.of("house a 1 30 50 0 0; house b 2 20 50 0 0; house c 3 0 1 0 0; seed 77; hail 40; fades = broken;");
        due("then(1, 0, 0)", x.then(1, 0, 0), 20);
        due("then(1, 0, 1)", x.then(1, 0, 1), 50);
        due("then(1, 12, 2)", x.then(1, 12, 2), 2);
        due("then(0, 12, 2)", x.then(0, 12, 2), 1);
        due("then(2, 12, 2)", x.then(2, 12, 2), 1);
        int[] heat = new int[61];
        int[] kept = new int[61];
        for (int n = 0; n <= 60; n++) {
            heat[n] = x.then(1, n, 0);
            kept[n] = x.then(1, n, 1);
        }
        due("then(1, 61, 0)", x.then(1, 61, 0), NONE);
        due("then(1, -1, 0)", x.then(1, -1, 0), NONE);
        due("then(1, 1, 3)", x.then(1, 1, 3), NONE);
        due("then(1, 1, -1)", x.then(1, 1, -1), NONE);
        due("then(3, 1, 0)", x.then(3, 1, 0), NONE);
        due("then(-1, 1, 0)", x.then(-1, 1, 0), NONE);
        for (int n = 0; n <= 60; n++) {
            due("HEAT in " + n, x.house(1, 2), heat[n]);
            due("KEPT in " + n, x.house(1, 3), kept[n]);
            x.days(1);
        }
    }

    private static void year() {
        SummerHouses x = Check.of("house a 20 0 3 0 0; house b 20 0 3 0 0; house c 20 0 3 0 0; seed 9990; hail 30; fades = broken;");
        int[] byHouse = {14, 12, 13};
        for (int h = 0; h < 3; h++) {
            due("year(" + h + ", 6, 20)", x.year(h, 6, 20), byHouse[h]);
        }
        int[] byDays = {20, 20, 20, 20, 18, 15, 12, 11, 11, 9, 8, 8};
        for (int n = 0; n < byDays.length; n++) {
            due("year(1, " + n + ", 20)", x.year(1, n, 20), byDays[n]);
        }
        due("year(0, 60, 1)", x.year(0, 60, 1), x.then(0, 60, 1) > 0 ? 1 : 0);
        due("year(0, 61, 1)", x.year(0, 61, 1), NONE);
        due("year(0, -1, 1)", x.year(0, -1, 1), NONE);
        due("year(0, 1, 0)", x.year(0, 1, 0), NONE);
        due("year(0, 1, 21)", x.year(0, 1, 21), NONE);
        due("year(3, 1, 1)", x.year(3, 1, 1), NONE);
        due("year(-1, 1, 1)", x.year(-1, 1, 1), NONE);
    }

    private static void tellAndForget() {
        SummerHouses x = Check.of(KIN);
        due("tell(-1, 1, true)", x.tell(-1, 1, true), NONE);
        due("tell(4, 1, true)", x.tell(4, 1, true), NONE);
        due("tell(0, -1, true)", x.tell(0, -1, true), NONE);
        due("tell(0, 1000, true)", x.tell(0, 1000, true), NONE);
        due("forget()", x.forget(), 0);
        for (int i = 0; i < 20; i++) {
            due("tell", x.tell(i % 4, i == 0 ? 999 : 0, i != 0), i);
        }
        due("a 21st", x.tell(0, 0, true), NONE);
        due("count(10)", x.count(10), 20);
        due("count(9)", x.count(9), 0);
        due("whose(20, 1)", x.whose(20, 1), 7);
        due("forget()", x.forget(), 20);
        due("forget()", x.forget(), 0);
        due("whose(1, 1)", x.whose(1, 1), NONE);
        due("tell(0, 999, true)", x.tell(0, 999, true), 0);
    }

    private static void whoseAndLook() {
        SummerHouses x = Check.of(KIN);
        due("whose(0, 0)", x.whose(0, 0), 3);
        due("whose(0, 1)", x.whose(0, 1), 7);
        x.tell(2, 60, true);
        x.tell(1, 10, false);
        x.tell(3, 0, false);
        due("whose(1, 1)", x.whose(1, 1), 5);
        due("whose(2, 1)", x.whose(2, 1), 4);
        due("whose(2, 0)", x.whose(2, 0), 1);
        due("whose(3, 0)", x.whose(3, 0), 0);
        due("whose(4, 0)", x.whose(4, 0), NONE);
        due("whose(-1, 0)", x.whose(-1, 0), NONE);
        due("whose(1, 2)", x.whose(1, 2), NONE);
        due("whose(1, -1)", x.whose(1, -1), NONE);
        due("look(0, 60): KEPT parts them", x.look(0, 60), 2);
        due("look(0, 5): PANES and HEAT do, alike", x.look(0, 5), 0);
        due("look(0, 9): HEAT", x.look(0, 9), 1);
        due("look(0, 999): none does", x.look(0, 999), 0);
        due("look(1, 9): HEAT", x.look(1, 9), 1);
        due("look(3, 1): none is left", x.look(3, 1), -2);
        due("look(4, 1)", x.look(4, 1), NONE);
        due("look(-1, 1)", x.look(-1, 1), NONE);
        due("look(0, -1)", x.look(0, -1), NONE);
        due("look(0, 1000)", x.look(0, 1000), NONE);
        x.burn(2, 4);
        due("as it is now", x.whose(2, 1), 0);
        x.undo();
        due("as it is now", x.whose(2, 1), 4);
        SummerHouses y = Check.of("house a 3 1 1 0 0; house b 3 1 1 0 0; seed 5; hail 100;");
        y.days(1);
        int hit = y.house(0, 1) == 1 ? 0 : 1;
        due("look by broken", y.look(0, 1), 3);
        y.tell(3, 1, true);
        due("whose by broken", y.whose(1, 1), 1 << hit);
        SummerHouses z = Check.of("house a 3 5 5 0 0; house b 3 5 5 0 0; seed 5; hail 100; cools = 0; fades = 0;");
        z.days(1);
        due("look by broken alone", z.look(0, 1), 3);
    }

    private static void holdAndRestore() {
        SummerHouses x = Check.of(KIN);
        due("restore(0)", x.restore(0), false);
        due("hold(3)", x.hold(3), false);
        due("hold(-1)", x.hold(-1), false);
        x.burn(0, 2);
        x.tell(0, 5, true);
        due("hold(0)", x.hold(0), true);
        due("count(9)", x.count(9), 1);
        x.days(3);
        x.cut(0, 1);
        due("hold(2)", x.hold(2), true);
        due("count(11)", x.count(11), 2);
        due("restore(1)", x.restore(1), false);
        due("restore(3)", x.restore(3), false);
        due("restore(-1)", x.restore(-1), false);
        due("count(9)", x.count(9), 3);
        Check.feed(x, "roof 3;");
        due("restore(0)", x.restore(0), true);
        due("tape", x.count(8), 7);
        due("day", x.count(1), 0);
        due("heat", x.house(0, 2), 16);
        due("burnt today", x.house(0, 6), 2);
        due("burnt so far", x.count(14), 2);
        due("cuttings", x.count(16), 0);
        due("coals", x.count(2), 18);
        due("told", x.count(10), 1);
        due("count(9)", x.count(9), 0);
        due("undo()", x.undo(), false);
        x.days(9);
        due("undo()", x.undo(), true);
        due("restore(2)", x.restore(2), true);
        due("day", x.count(1), 3);
        due("cuttings", x.count(16), 1);
        due("restore(0), that stays there", x.restore(0), true);
        due("day", x.count(1), 0);
        x.bring(7);
        due("hold(0), in place of it", x.hold(0), true);
        x.undo();
        due("restore(0)", x.restore(0), true);
        due("coals", x.count(2), 25);
        due("count(11)", x.count(11), 2);
    }

    private static void count() {
        SummerHouses x = Check.of("house a 4 10 9 0 0; house b 6 0 0 3 4; house c 2 0 30 0 0; hail 100; seed 3; roof 7; coals 50; fades = 2;");
        x.days(2);
        x.burn(0, 3);
        x.burn(2, 1);
        x.door(1, true);
        x.door(2, true);
        x.cut(2, 1);
        x.hold(1);
        x.tell(1, 1, true);
        Check.feed(x, "coals");
        int heat = x.house(0, 2) + x.house(1, 2) + x.house(2, 2);
        int[] want = {3, 2, 46, 31, heat, 2, 6, 0, 5, 6, 1, 1, 1, 6, 4, 12, 1, 2, 7, 4};
        for (int what = 0; what < want.length; what++) {
            due("count(" + what + ")", x.count(what), want[what]);
        }
        due("count(20)", x.count(20), NONE);
        due("count(-1)", x.count(-1), NONE);
        due("count(MAX)", x.count(MAX), NONE);
        due("count(MIN)", x.count(MIN), NONE);
        x.days(60);
        due("count(7)", x.count(7), 7);
        due("count(17)", x.count(17), 7);
        due("count(13)", x.count(13), 0);
        due("count(14)", x.count(14), 4);
        due("count(19)", x.count(19), 0);
    }

    private static void nothingHappensByAsking() {
        SummerHouses x = Check.of(KIN + "hail 60; seed 4;");
        x.burn(1, 2);
        x.days(3);
        x.burn(0, 1);
        x.door(1, true);
        int[] before = all(x);
        for (int h = -1; h < 4; h++) {
            x.loss(h, 9);
            x.share(9, h);
            x.gone(h);
            x.cold(h);
            x.round(h);
            x.next(h, 1);
            x.nearest(h);
            x.saves(h);
            x.roofs(h);
            x.paired(h);
            x.then(h, 40, 0);
            x.year(h, 40, 9);
        }
        x.plan(9, 0);
        x.lasts();
        x.enough();
        x.first();
        x.pipes();
        int[] after = all(x);
        for (int i = 0; i < before.length; i++) {
            due("nothing happens: " + i, after[i], before[i]);
        }
    }

    private static int[] all(SummerHouses x) {
        int[] all = new int[20 + 3 * 13];
        for (int i = 0; i < 20; i++) {
            all[i] = x.count(i);
        }
        for (int i = 0; i < 39; i++) {
            all[20 + i] = x.house(i / 13, i % 13);
        }
        return all;
    }
}
