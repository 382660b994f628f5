/** The faults of texts: their numbers, their places, which comes first (promises 4 and 5). */
public final class FaultsTest {
    private static final int SYNTAX = 1;
    private static final int ROOM = 2;
    private static final int TWICE = 3;
    private static final int WRONG = 5;

    public static void main(String[] args) {
        goodTexts();
        syntax();
        tokens();
        room();
        twiceAndWrong();
        whichComesFirst();
        whatWentBackIsGone();
        faultsChangeNothing();
        Check.end("FaultsTest");
    }

    private static void good(String text) {
        SummerHouses x = new SummerHouses();
        Check.due("read of " + text, Check.read(x, text), 0);
        Check.due("place of " + text, x.place(), SummerHouses.NONE);
    }

    private static void bad(String text, int fault, int place) {
        SummerHouses x = new SummerHouses();
        Check.due("read of " + text, Check.read(x, text), fault);
        Check.due("place of " + text, x.place(), place);
        Check.due("count(8) behind " + text, x.count(8), 0);
    }

    private static void goodTexts() {
        good("");
        good(" \t\r\n ");
        good("coals 0;");
        good("coals0;coals999;roof1;roof99;hail0;hail100;seed0;seed9999;");
        good("house a 1 0 0 0 0;house b 20 99 999 99 99;");
        good("house abcdefgh1 2 3 4 5;");
        good("house ifs 1 2 3 4 5;house days 1 2 3 4 5;house housea 1 2 3 4 5;");
        good("cools=panes+broken-heat*kept/open+day-which*leaves/burnt;");
        good("warms=if 1<2 then 3 else if 2<3 then 4 else 5;");
        good("fades = ( ( ( ( ( ( 1 ) ) ) ) ) ) ;");
        good("mends=0;mends=9999;");
        good("coals\t0012\n;\r");
    }

    private static void syntax() {
        bad("x", SYNTAX, 0);
        bad("  ;", SYNTAX, 2);
        bad("coals", SYNTAX, 5);
        bad("coals  ", SYNTAX, 7);
        bad("coals 5", SYNTAX, 7);
        bad("coals x;", SYNTAX, 6);
        bad("coals 5;;", SYNTAX, 8);
        bad("coals -5;", SYNTAX, 6);
        bad("coals = 5;", SYNTAX, 6);
        bad("house 1 2 3 4 5;", SYNTAX, 6);
        bad("house house 1 2 3 4 5;", SYNTAX, 6);
        bad("house if 1 2 3 4 5;", SYNTAX, 6);
        bad("house day 1 2 3 4 5;", SYNTAX, 6);
        bad("house a 1 2 3 4;", SYNTAX, 15);
        bad("house a 1 2 3 4 5 6;", SYNTAX, 18);
        bad("cools 5;", SYNTAX, 6);
        bad("cools = ;", SYNTAX, 8);
        bad("cools = x;", SYNTAX, 8);
        bad("cools = -1;", SYNTAX, 8);
        bad("cools = 1 < 2;", SYNTAX, 10);
        bad("cools = (1;", SYNTAX, 10);
        bad("cools = 1);", SYNTAX, 9);
        bad("cools = 1 2;", SYNTAX, 10);
        bad("cools = (if 1 < 2 then 1 else 2);", SYNTAX, 9);
        bad("cools = if 1 then 2 else 3;", SYNTAX, 13);
        bad("cools = if 1 < 2 else 3;", SYNTAX, 17);
        bad("cools = if 1 < 2 then 3;", SYNTAX, 23);
        bad("cools = if 1 < 2 then if 1 < 2 then 1 else 2 else 3;", SYNTAX, 22);
        bad("cools = 1 + if 1 < 2 then 3 else 4;", SYNTAX, 12);
        bad("cools = 1 +", SYNTAX, 11);
        bad("kept = 1;", SYNTAX, 0);
    }

    private static void tokens() {
        bad("house abcdefghi 1 2 3 4 5;", SYNTAX, 6);
        bad("coals 00005;", SYNTAX, 6);
        bad("cools = 12345;", SYNTAX, 8);
        bad("Coals 5;", SYNTAX, 0);
        bad("coals 5.", SYNTAX, 7);
        bad("coals 5\u0000;", SYNTAX, 7);
        bad("coals\u000b5;", SYNTAX, 5);
        bad("coals\u00a05;", SYNTAX, 5);
        bad("house\u00e9 a 1 2 3 4 5;", SYNTAX, 5);
        bad("coals5;seedx", SYNTAX, 7);
        bad("cools = heat > 3;", SYNTAX, 13);
        bad("cools = heat % 3;", SYNTAX, 13);
    }

    private static String houses(int n) {
        StringBuilder s = new StringBuilder();
        for (int i = 0; i < n; i++) {
            s.append("house ").append((char) ('a' + i)).append(" 1 2 3 4 5;");
        }
        return s.toString();
    }

    /** A tell of so many tokens in all, an even number from 4 on: fades = 1 + 1 .. ; */
    private static String lawOf(int tokens) {
        return "fades=1" + "+1".repeat((tokens - 4) / 2) + ";";
    }

    private static void room() {
        good(houses(6));
        bad(houses(7), ROOM, houses(6).length());
        bad(houses(6) + "  house", ROOM, houses(6).length() + 2);
        String four = "if 1<2 then 3 else ".repeat(4);
        good("cools=" + four + "1;");
        bad("cools=" + four + "if 1<2 then 3 else 1;", ROOM, 6 + four.length());
        bad("cools=" + four + "if;", ROOM, 6 + four.length());
        good("cools=" + four + "1;warms=" + four + "1;");
        bad("cools=((((((( 1 )))))));", ROOM, 12);
        bad("cools=1+((((((2*(1))))))) ;", ROOM, 16);
        good("cools=((((((1))))))+((((((1))))));");
        good("cools=if ((((((1)))))) < ((((((1)))))) then ((((((1)))))) else ((((((1))))));");
        good(lawOf(400));
        good(lawOf(400) + " \n");
        bad(lawOf(400) + "coals 5;", ROOM, lawOf(400).length());
        bad(lawOf(400) + " coals", ROOM, lawOf(400).length() + 1);
        bad(lawOf(402), ROOM, lawOf(402).length() - 2);
        bad(lawOf(400) + "x", SYNTAX, lawOf(400).length());
        bad(lawOf(400) + "?", SYNTAX, lawOf(400).length());
        bad(lawOf(400) + "abcdefghi", SYNTAX, lawOf(400).length());
        bad(lawOf(400).substring(0, lawOf(400).length() - 1), SYNTAX, lawOf(400).length() - 1);
        bad(lawOf(400).substring(0, lawOf(400).length() - 1) + "+1", ROOM, lawOf(400).length());
        bad(lawOf(398) + "coals 5;", ROOM, lawOf(398).length() + 7);
        bad("roof 0;" + lawOf(402), ROOM, 7 + lawOf(402).length() - 5);
    }

    private static void twiceAndWrong() {
        bad("house a 1 2 3 4 5;house a 1 2 3 4 5;", TWICE, 24);
        bad("house a 1 2 3 4 5;house b 1 2 3 4 5;house b 1 2 3 4 5;house a 1 2 3 4 5;", TWICE, 42);
        good("house a 1 2 3 4 5;house aa 1 2 3 4 5;");
        bad("house a 0 2 3 4 5;", WRONG, 8);
        bad("house a 21 2 3 4 5;", WRONG, 8);
        bad("house a 1 100 3 4 5;", WRONG, 10);
        bad("house a 1 2 1000 4 5;", WRONG, 12);
        bad("house a 1 2 3 100 5;", WRONG, 14);
        bad("house a 1 2 3 4 100;", WRONG, 16);
        bad("coals 1000;", WRONG, 6);
        bad("roof 0;", WRONG, 5);
        bad("roof 100;", WRONG, 5);
        bad("hail 101;", WRONG, 5);
        good("cools=9999;warms=9999;fades=9999;mends=9999;");
        bad("coals 1000;coals 5;", WRONG, 6);
    }

    private static void whichComesFirst() {
        bad("coals 1000; x", SYNTAX, 12);
        bad("coals 1000;" + houses(7), ROOM, 11 + houses(6).length());
        bad("house a 1 2 3 4 5;house a 0 2 3 4 5;", TWICE, 24);
        bad("house a 0 2 3 4 5;house a 1 2 3 4 5;", WRONG, 8);
        bad(houses(7) + "x", ROOM, houses(6).length());
        bad(houses(3) + "x" + houses(7), SYNTAX, houses(3).length());
        bad("house a 1 2 3 4 5;house a 1 2 3 4", SYNTAX, 33);
    }

    /** Bytes that went back are no part of the text, though they would go on with its last TOKEN. */
    private static void whatWentBackIsGone() {
        cutOff("house", "hous", SYNTAX, 0);
        cutOff("coals 12345", "coals 1234", SYNTAX, 10);
        cutOff("coals 5;x", "coals 5;", 0, -1);
        cutOff("coals 5; x", "coals 5; ", 0, -1);
        cutOff("coals 5;", "coals 5", SYNTAX, 7);
    }

    private static void cutOff(String text, String left, int fault, int place) {
        SummerHouses x = new SummerHouses();
        Check.feed(x, text);
        x.back(text.length() - left.length());
        Check.due("read of " + left, x.read(), fault);
        Check.due("place of " + left, x.place(), place);
    }

    private static void faultsChangeNothing() {
        SummerHouses x = Check.of("house a 5 6 7 8 9; coals 30; roof 40; seed 5; hail 100; fades = 2;");
        x.bring(5);
        x.hold(1);
        x.tell(1, 6, true);
        Check.due("read", Check.read(x, "house b 1 1 1 1 1; coals 3; roof 3; fades = 9; x"), SYNTAX);
        Check.due("house(0, 0)", x.house(0, 0), 5);
        Check.due("house(0, 9)", x.house(0, 9), 2);
        Check.due("count(2)", x.count(2), 35);
        Check.due("count(18)", x.count(18), 40);
        Check.due("count(9)", x.count(9), 1);
        Check.due("count(10)", x.count(10), 1);
        Check.due("count(11)", x.count(11), 1);
        Check.due("count(12)", x.count(12), 1);
        Check.due("place()", x.place(), 47);
        Check.due("read", Check.read(x, "house b 1 1 1 1 1;"), 0);
        Check.due("place()", x.place(), -1);
        Check.due("house(0, 0)", x.house(0, 0), 1);
        Check.due("house(0, 9)", x.house(0, 9), 1);
        Check.due("count(2)", x.count(2), 20);
        Check.due("count(18)", x.count(18), 20);
        Check.due("count(9)", x.count(9), 0);
        Check.due("count(10)", x.count(10), 0);
        Check.due("count(11)", x.count(11), 0);
        Check.due("count(12)", x.count(12), 0);
        Check.due("undo()", x.undo(), false);
        Check.due("restore(1)", x.restore(1), false);
    }
}
