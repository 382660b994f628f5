/** Boundaries of promises 1 to 5: the tape, the limits of a text, its TOKENS, HOUSES and numbers, its FAULTS. */
public final class TextEdgesTest {
    private static final int NONE = Edge.NONE;
    private static final int SYNTAX = 1;
    private static final int ROOM = 2;
    private static final int TWICE = 3;
    private static final int WRONG = 5;
    private static final String[] WORDS = {"house", "cools", "warms", "fades", "mends", "coals", "roof", "hail", "seed",
        "if", "then", "else", "panes", "broken", "heat", "kept", "open", "day", "which", "leaves", "burnt"};
    private static final String[] LAWS = {"cools", "warms", "fades", "mends"};

    public static void main(String[] args) {
        aNewObject();
        callsOfAnObject();
        feedToTheFull();
        backToNothing();
        longTexts();
        blanks();
        names();
        words();
        ints();
        signs();
        emptyTells();
        tells();
        houses();
        housesNumbers();
        numbersForAll();
        untold();
        theLastOne();
        placeOfFaults();
        leastOfOnePlace();
        tokens401();
        fifthIf();
        seventhBracket();
        twice();
        wrong();
        firstFaults();
        changesNothing();
        inPlaceOfTheOneAhead();
        nothingIsLeftOfTheOneAhead();
        readEmptiesTheTape();
        latestPlace();
        Edge.end("TextEdgesTest", 1, 5);
    }

    private static void taken(String text) {
        SummerHouses x = new SummerHouses();
        Edge.is("read() of " + brief(text), Check.read(x, text), 0);
        Edge.is("place() of " + brief(text), x.place(), NONE);
        Edge.is("count(8) behind " + brief(text), x.count(8), 0);
    }

    /** The text is refused with this fault, and what goes on goes on as it did. */
    private static void refused(String text, int fault, int place) {
        SummerHouses x = withoutTape();
        Edge.is("read() of " + brief(text), Check.read(x, text), fault);
        Edge.is("place() of " + brief(text), x.place(), place);
        Edge.alikeButPlace(brief(text), x, withoutTape());
    }

    private static String brief(String text) {
        int length = text.length();
        return length < 120 ? text : text.substring(0, 60) + " .. " + length + " bytes .. " + text.substring(length - 40);
    }

    private static SummerHouses withoutTape() {
        SummerHouses x = Edge.busy();
        x.back(x.count(8));
        return x;
    }

    // ---- promise 1

    private static void aNewObject() {
        Edge.of(1, "No HOUSES.");
        SummerHouses x = new SummerHouses();
        Edge.is("count(0)", x.count(0), 0);
        Edge.is("house(0, 0)", x.house(0, 0), NONE);
        Edge.is("count(2), COALS (20)", x.count(2), 20);
        Edge.is("count(18), ROOF (20)", x.count(18), 20);
        for (int what = 0; what < 20; what++) {
            if (what != 2 && what != 18) {
                Edge.is("count(" + what + ")", x.count(what), 0);
            }
        }
        Edge.is("place()", x.place(), NONE);
        Edge.is("undo()", x.undo(), false);
        for (int slot = 0; slot < 3; slot++) {
            Edge.is("restore(" + slot + ")", x.restore(slot), false);
        }
        Edge.alike("an empty text is the same", Check.of(""), new SummerHouses());
    }

    private static void callsOfAnObject() {
        Edge.of(1, "An object is used for at most 512 calls after it has been made");
        SummerHouses x = new SummerHouses();
        for (int i = 1; i <= 511; i++) {
            x.days(60);
        }
        Edge.is("the 512th call", x.days(60), 512 * 60);
    }

    // ---- promises 2 and 3

    /** An empty tape and so many bytes on it. */
    private static SummerHouses taped(int bytes) {
        SummerHouses x = new SummerHouses();
        for (int i = 0; i < bytes; i += 20) {
            x.feed(0x20202020, 0x20202020, 0x20202020, 0x20202020, 0x20202020);
        }
        x.back((20 - bytes % 20) % 20);
        return x;
    }

    private static void feedToTheFull() {
        Edge.of(2, "NONE, and nothing comes, if it would have more than 2,000.");
        Edge.is("feed() to 20", taped(0).feed(0, 0, 0, 0, 0), 20);
        Edge.is("feed() to 1999", taped(1979).feed(0, 0, 0, 0, 0), 1999);
        Edge.is("feed() to 2000", taped(1980).feed(0, 0, 0, 0, 0), 2000);
        Edge.refused(() -> taped(1981), "feed() to 2001", x -> x.feed(0, 0, 0, 0, 0));
        Edge.refused(() -> taped(1999), "feed() to 2019", x -> x.feed(0, 0, 0, 0, 0));
        Edge.refused(() -> taped(2000), "feed() to 2020", x -> x.feed(0, 0, 0, 0, 0));
        Edge.of(2, "Twenty bytes, the highest of a first, come behind the tape: how many it has.");
        SummerHouses x = new SummerHouses();
        // "coal" "s 12" "3;ro" "of 4" "5;  "
        Edge.is("feed(..)", x.feed(0x636f616c, 0x73203132, 0x333b726f, 0x6f662034, 0x353b2020), 20);
        Edge.is("read()", x.read(), 0);
        Edge.is("count(2)", x.count(2), 123);
        Edge.is("count(18)", x.count(18), 45);
        SummerHouses y = new SummerHouses();
        y.feed(0x20202020, 0x20202020, 0x20202020, 0x20202020, 0x20202080);
        Edge.is("read(): the lowest of e is the last", y.read(), SYNTAX);
        Edge.is("place()", y.place(), 19);
        SummerHouses z = new SummerHouses();
        z.feed(-1, -1, -1, -1, -1);
        Edge.is("read(): bytes of 255", z.read(), SYNTAX);
        Edge.is("place()", z.place(), 0);
    }

    private static void backToNothing() {
        Edge.of(3, "NONE, and nothing goes, if it has not so many, or n is below 0.");
        Edge.is("back(2000) of 2000", taped(2000).back(2000), 0);
        Edge.is("back(1) of 2000", taped(2000).back(1), 1999);
        Edge.refused(() -> taped(2000), "back(2001) of 2000", x -> x.back(2001));
        Edge.is("back(7) of 7", taped(7).back(7), 0);
        Edge.refused(() -> taped(7), "back(8) of 7", x -> x.back(8));
        Edge.refused(() -> taped(7), "back(-1) of 7", x -> x.back(-1));
        Edge.refused(() -> taped(7), "back(MIN) of 7", x -> x.back(Edge.MIN));
        Edge.refused(() -> taped(7), "back(MAX) of 7", x -> x.back(Edge.MAX));
        Edge.same(() -> taped(7), "back(0) of 7", x -> x.back(0), 7);
        Edge.same(Edge::empty, "back(0) of 0", x -> x.back(0), 0);
        Edge.refused(Edge::empty, "back(1) of 0", x -> x.back(1));
        Edge.refused(Edge::busy, "back(17) of 16", x -> x.back(17));
        Edge.of(3, "The last n bytes of the tape go: how many it has.");
        SummerHouses x = new SummerHouses();
        Check.feed(x, "coals 78;9;");
        Edge.is("back(3)", x.back(3), 8);
        x.feed(0x3b202020, 0x20202020, 0x20202020, 0x20202020, 0x20202020);
        Edge.is("read()", x.read(), 0);
        Edge.is("count(2)", x.count(2), 78);
        wentBack("coalsx", "coals", SYNTAX, 5);
        wentBack("house", "hous", SYNTAX, 0);
        wentBack("coals 789", "coals 78", SYNTAX, 8);
        wentBack("coals 78; ", "coals 78;", 0, NONE);
        wentBack("coals 78;x", "coals 78;", 0, NONE);
        wentBack("coals 78 ;", "coals 78 ", SYNTAX, 9);
    }

    /** What went would go on with the last TOKEN that is left, or with the blanks behind it. */
    private static void wentBack(String text, String left, int fault, int place) {
        SummerHouses x = new SummerHouses();
        Check.feed(x, text);
        x.back(text.length() - left.length());
        Edge.is("read() of " + left, x.read(), fault);
        Edge.is("place() of " + left, x.place(), place);
    }

    // ---- promise 4: the limits of a text and of its TOKENS

    private static void longTexts() {
        Edge.of(4, "A TEXT has 2,000 bytes at most.");
        taken(" ".repeat(2000));
        taken(" ".repeat(1991) + "coals 78;");
        refused(" ".repeat(1999) + "?", SYNTAX, 1999);
        refused(" ".repeat(1992) + "coals 78", SYNTAX, 2000);
        refused("coals 78" + " ".repeat(1992), SYNTAX, 2000);
        refused("x".repeat(2000), SYNTAX, 0);
        refused("7".repeat(2000), SYNTAX, 0);
        refused("(".repeat(2000), SYNTAX, 0);
        refused("cools=" + "(".repeat(1994), ROOM, 12);
        refused("coals" + " ".repeat(1990) + "coals", SYNTAX, 1995);
        refused("seed" + " ".repeat(1992) + "9999", SYNTAX, 2000);
        SummerHouses x = new SummerHouses();
        Check.read(x, "coals" + " ".repeat(1991) + "123;");
        Edge.is("count(2)", x.count(2), 123);
    }

    private static boolean isOneOf(int b, String signs) {
        return signs.indexOf((char) b) >= 0;
    }

    private static void blanks() {
        Edge.of(4, "with blanks (9, 10, 13, 32) between or not");
        taken("coals5;");
        taken("coals \t\r\n5 ; ");
        for (int b = 0; b < 256; b++) {
            String text = "coals" + (char) b + "5;";
            boolean letter = b >= 'a' && b <= 'z';
            boolean digit = b >= '0' && b <= '9';
            if (b == 9 || b == 10 || b == 13 || b == 32 || digit) {
                taken(text);
            } else {
                refused(text, SYNTAX, letter ? 0 : 5);
            }
        }
    }

    private static void names() {
        Edge.of(4, "NAMES (letters a .. z, 8 at most");
        taken("house a 1 0 0 0 0;");
        taken("house z 1 0 0 0 0;");
        taken("house azazazaz 1 0 0 0 0;");
        taken("house azazazaz1 0 0 0 0;");
        refused("house azazazaza 1 0 0 0 0;", SYNTAX, 6);
        refused("house " + "a".repeat(40) + " 1 0 0 0 0;", SYNTAX, 6);
        for (int b = 0; b < 256; b++) {
            if (b >= 'a' && b <= 'z') {
                taken("house a" + (char) b + " 1 0 0 0 0;");
                taken("house " + (char) b + " 1 0 0 0 0;");
            } else if (b != 9 && b != 10 && b != 13 && b != 32 && !(b >= '0' && b <= '9')) {
                refused("house a" + (char) b + " 1 0 0 0 0;", SYNTAX, 7);
                refused("house " + (char) b + " 1 0 0 0 0;", SYNTAX, 6);
            }
        }
        // Eight letters are told apart to the last one, and a name from its beginning.
        taken("house abcdefgh 1 0 0 0 0;house abcdefgi 1 0 0 0 0;house abcdefg 1 0 0 0 0;house bcdefgh 1 0 0 0 0;");
    }

    private static void words() {
        Edge.of(4, "none of the words in quotes");
        for (String word : WORDS) {
            refused("house " + word + " 1 0 0 0 0;", SYNTAX, 6);
            taken("house " + word + "s 1 0 0 0 0;");
            taken("house s" + word + " 1 0 0 0 0;");
            taken("house " + word.substring(1) + " 1 0 0 0 0;");
            taken("house " + word.substring(0, word.length() - 1) + " 1 0 0 0 0;");
        }
        Edge.of(4, "TOKENS, the longest that can be");
        refused("coalsroof 5;", SYNTAX, 0);
        refused("coal s 5;", SYNTAX, 0);
        refused("cools = if heat<1 thenheat else 1;", SYNTAX, 18);
        taken("cools=if heat<1then 2else 3;");
        refused("cools=1 2;", SYNTAX, 8);
    }

    private static void ints() {
        Edge.of(4, "INTS (1 to 4 digits)");
        taken("cools=0;");
        taken("cools=9;");
        taken("cools=0000;");
        taken("cools=9999;");
        refused("cools=00000;", SYNTAX, 6);
        refused("cools=10000;", SYNTAX, 6);
        refused("cools=" + "1".repeat(60) + ";", SYNTAX, 6);
        taken("coals 0999;");
        refused("coals 00999;", SYNTAX, 6);
        taken("seed 9999;");
        refused("seed 10000;", SYNTAX, 5);
        taken("house a0001 0000 0000 0000 0000;");
        // 11111 is no four digits and one more.
        refused("house a 1 1 1 11111;", SYNTAX, 14);
    }

    private static void signs() {
        Edge.of(4, "SIGNS ; = + - * / < ( ) . A longer one, all else, is no TOKEN.");
        for (int b = 0; b < 256; b++) {
            String text = "cools=heat" + (char) b + "3;";
            if (isOneOf(b, "+-*/")) {
                taken(text);
            } else if (isOneOf(b, "\t\n\r ;")) {
                refused(text, SYNTAX, 11);
            } else {
                refused(text, SYNTAX, b >= 'a' && b <= 'z' ? 6 : 10);
            }
        }
        taken("cools=if(heat)<(3)then(1)else(2);");
        refused("cools==1;", SYNTAX, 6);
        refused("cools=1<<2;", SYNTAX, 7);
        refused("cools=if 1<<2 then 1 else 2;", SYNTAX, 11);
        refused("cools=1++2;", SYNTAX, 8);
        refused("cools=1.5;", SYNTAX, 7);
    }

    private static void emptyTells() {
        Edge.of(4, "text: {TELL}.");
        taken("");
        taken(" ");
        taken("coals 1;");
        taken("coals 1;coals 1;");
        refused(";", SYNTAX, 0);
        refused("coals 1;;", SYNTAX, 8);
        // The first nine words begin a TELL, the others none, whatever stands behind them.
        for (int i = 0; i < WORDS.length; i++) {
            if (i >= 9) {
                refused(WORDS[i], SYNTAX, 0);
                refused(WORDS[i] + " 1;", SYNTAX, 0);
                refused(WORDS[i] + "=1;", SYNTAX, 0);
                refused(WORDS[i] + " a 1 0 0 0 0;", SYNTAX, 0);
            } else {
                refused(WORDS[i], SYNTAX, WORDS[i].length());
            }
        }
        Edge.of(4, "LAW: '=' {'if' E '<' E 'then' E 'else'} E.");
        for (String law : LAWS) {
            refused(law + "=;", SYNTAX, 6);
            refused(law + " 1;", SYNTAX, 6);
            refused(law + "=if 1<2 then 3 else;", SYNTAX, 24);
            taken(law + "=if 1<2 then 3 else 4;");
            refused(law + "=if 1<2 then 3 else 4", SYNTAX, 26);
        }
        Edge.of(4, "UNIT: INT | VAR | '(' E ')'.");
        refused("cools=();", SYNTAX, 7);
        refused("cools=(1;", SYNTAX, 8);
        refused("cools=1);", SYNTAX, 7);
        refused("cools=(1));", SYNTAX, 9);
        taken("cools=(1);");
        refused("cools=-1;", SYNTAX, 6);
        refused("cools=1-;", SYNTAX, 8);
        for (String word : WORDS) {
            boolean isVar = "panes broken heat kept open day which leaves burnt".contains(word);
            if (isVar) {
                taken("cools=" + word + ";");
            } else if (!word.equals("if")) {
                refused("cools=" + word + ";", SYNTAX, 6);
            }
        }
        refused("cools=x;", SYNTAX, 6);
    }

    /** Each TOKEN of a TELL: the text may not end ahead of it, and no other sort, nor a second one, stands there. */
    private static void eachToken(String... tokens) {
        StringBuilder ahead = new StringBuilder();
        for (int i = 0; i < tokens.length; i++) {
            int place = ahead.length();
            String sort = sortOf(tokens[i]);
            for (String other : new String[] {"x", "1", ";", "=", "house", "roof", "heat"}) {
                // At its start, a TELL of another sort is no FAULT there.
                if (!sortOf(other).equals(sort) && (i > 0 || !other.equals("house") && !other.equals("roof"))) {
                    refused(ahead + other, SYNTAX, place);
                }
            }
            if (i > 0) {
                refused(ahead.toString(), SYNTAX, place);
            }
            ahead.append(tokens[i]).append(' ');
        }
        taken(ahead.toString());
        refused(ahead + ";", SYNTAX, ahead.length());
        refused(ahead + "1;", SYNTAX, ahead.length());
    }

    private static String sortOf(String token) {
        char c = token.charAt(0);
        return c >= '0' && c <= '9' ? "INT" : token.length() < 3 && c >= 'a' && c <= 'z' ? "NAME" : token;
    }

    private static void tells() {
        Edge.of(4, "TELL: 'house' NAME INT INT INT INT INT ';'");
        eachToken("house", "a", "1", "0", "0", "0", "0", ";");
        refused("house a 1 0 0 0;", SYNTAX, 15);
        refused("house a 1 0 0 0 0 0;", SYNTAX, 18);
        refused("house a b 1 0 0 0 0;", SYNTAX, 8);
        refused("house 1 0 0 0 0;", SYNTAX, 6);
        Edge.of(4, "'coals' INT ';' | 'roof' INT ';' | 'hail' INT ';' | 'seed' INT ';'.");
        for (String word : new String[] {"coals", "roof", "hail", "seed"}) {
            eachToken(word, "1", ";");
            int place = word.length() + 1;
            refused(word + " heat;", SYNTAX, place);
            refused(word + " (1);", SYNTAX, place);
            refused(word + "=1;", SYNTAX, place - 1);
            refused(word + " 1+1;", SYNTAX, place + 1);
        }
        Edge.of(4, "('cools' | 'warms' | 'fades' | 'mends') LAW ';'");
        for (String word : LAWS) {
            taken(word + "=1;");
            taken(word + "=1;" + word + "=heat;");
            refused(word, SYNTAX, 5);
            refused(word + ";", SYNTAX, 5);
            refused(word + "==1;", SYNTAX, 6);
            refused(word + "=1", SYNTAX, 7);
            refused(word + "=1 2;", SYNTAX, 8);
            refused(word + "=1;;", SYNTAX, 8);
            refused(word + "=1;=2;", SYNTAX, 8);
        }
    }

    // ---- promise 4: HOUSES and numbers

    private static String housesOf(int n) {
        return Edge.keeping(10, 11, 12, 13, 14, 15, 16).substring(0, n * "house a 1 0 10 0 0;".length());
    }

    private static void houses() {
        Edge.of(4, "HOUSES, 6 at most");
        SummerHouses x = new SummerHouses();
        Edge.is("read() of six", Check.read(x, housesOf(6)), 0);
        Edge.is("count(0)", x.count(0), 6);
        refused(housesOf(7), ROOM, housesOf(6).length());
        Edge.of(4, "one more of a sort than told (at its first TOKEN)");
        taken(housesOf(6) + "coals 1;coals 2;coals 3;coals 4;coals 5;coals 6;coals 7;");
        refused(housesOf(6) + " house", ROOM, housesOf(6).length() + 1);
        refused(housesOf(6) + " coals 3; house 7", ROOM, housesOf(6).length() + 10);
        refused(housesOf(6) + "house a 0 0 0 0 0;", ROOM, housesOf(6).length());
        refused(housesOf(6) + "x", SYNTAX, housesOf(6).length());
        Edge.of(4, "numbered from 0 on as they stand");
        for (int h = 0; h < 6; h++) {
            Edge.is("KEPT of " + h, x.house(h, 3), 10 + h);
        }
        Edge.is("KEPT of 6", x.house(6, 3), NONE);
        Edge.is("KEPT of -1", x.house(-1, 3), NONE);
        SummerHouses parted = Check.of("coals 3;" + housesOf(1) + "roof 4;" + housesOf(2).substring(housesOf(1).length()));
        Edge.is("KEPT of 1", parted.house(1, 3), 11);
    }

    private static String houseWith(int at, int value) {
        int[] five = {1, 0, 0, 0, 0};
        five[at] = value;
        return Edge.house("a", five[0], five[1], five[2], five[3], five[4]);
    }

    private static void housesNumbers() {
        String[] told = {"PANES 1 .. 20", "HEAT 0 .. 99", "how much is KEPT 0 .. 999", "X 0 .. 99", "Y 0 .. 99"};
        int[] least = {1, 0, 0, 0, 0};
        int[] most = {20, 99, 999, 99, 99};
        int[] what = {0, 2, 3, 11, 12};
        for (int i = 0; i < 5; i++) {
            Edge.of(4, told[i]);
            int place = 8 + 2 * i;
            for (int value : new int[] {least[i], least[i] + 1, most[i] - 1, most[i]}) {
                taken(houseWith(i, value));
                Edge.is("house(0, " + what[i] + ")", Check.of(houseWith(i, value)).house(0, what[i]), value);
            }
            refused(houseWith(i, most[i] + 1), WRONG, place);
            refused(houseWith(i, 9999), WRONG, place);
            if (least[i] > 0) {
                refused(houseWith(i, least[i] - 1), WRONG, place);
            }
        }
    }

    private static void numbersForAll() {
        Edge.of(4, "COALS 0 .. 999 (20)");
        for (int n : new int[] {0, 1, 998, 999}) {
            Edge.is("COALS", Check.of("coals " + n + ";").count(2), n);
        }
        refused("coals 1000;", WRONG, 6);
        refused("coals 9999;", WRONG, 6);
        Edge.of(4, "ROOF 1 .. 99: how many PANES one roof may have over it (20)");
        for (int n : new int[] {1, 2, 98, 99}) {
            Edge.is("ROOF", Check.of("roof " + n + ";").count(18), n);
        }
        refused("roof 0;", WRONG, 5);
        refused("roof 100;", WRONG, 5);
        Edge.of(4, "HAIL: on how many of 100 days 0 .. 100 (0)");
        for (int d = 0; d < 40; d++) {
            SummerHouses never = Check.of("hail 0; seed " + d * 100 + ";");
            SummerHouses ever = Check.of("hail 100; seed " + d * 100 + ";");
            never.days(d);
            ever.days(d);
            Edge.is("hail 0, day " + d, never.count(12), 0);
            Edge.is("hail 100, day " + d, ever.count(12), 1);
        }
        refused("hail 101;", WRONG, 5);
        Edge.of(4, "SEED 0 .. 9999 (0)");
        taken("seed 0;");
        taken("seed 9999;");
        refused("seed 10000;", SYNTAX, 5);
    }

    private static int hailDays(String text) {
        return hailDays(Check.of(text));
    }

    private static int hailDays(SummerHouses x) {
        int bits = 0;
        for (int d = 0; d < 30; d++) {
            bits |= x.count(12) << d;
            x.days(1);
        }
        return bits;
    }

    private static void untold() {
        Edge.of(4, "COOLS (broken and 1, added), WARMS (5), FADES (1), MENDS (1), if not told");
        SummerHouses x = Check.of("house a 2 9 5 0 0; house b 2 9 0 0 0; hail 100; seed 4;");
        int[] want = {1, 5, 1, 1};
        for (int i = 0; i < 4; i++) {
            Edge.is("house(0, " + (7 + i) + ")", x.house(0, 7 + i), want[i]);
        }
        Edge.is("FADES with nothing KEPT", x.house(1, 9), 0);
        x.days(1);
        Edge.is("COOLS with one broken", x.house(0, 7), 2);
        for (String law : LAWS) {
            SummerHouses one = Check.of("house a 2 9 5 0 0;" + law + "=3;");
            for (int i = 0; i < 4; i++) {
                Edge.is(LAWS[i] + " if " + law + " is told", one.house(0, 7 + i), LAWS[i].equals(law) ? 3 : want[i]);
            }
        }
        Edge.of(4, "COALS 0 .. 999 (20), ROOF 1 .. 99: how many PANES one roof may have over it (20), HAIL: on how many of 100 days 0 .. 100 (0), SEED 0 .. 9999 (0)");
        SummerHouses one = Check.of("seed 7;");
        Edge.is("COALS untold", one.count(2), 20);
        Edge.is("ROOF untold", one.count(18), 20);
        Edge.is("HAIL untold", hailDays("seed 7;"), 0);
        Edge.is("SEED untold", hailDays("hail 50;"), hailDays("hail 50;seed 0;"));
        Edge.is("SEED 1 is another", hailDays("hail 50;seed 1;") == hailDays("hail 50;seed 0;"), false);
    }

    private static void theLastOne() {
        Edge.of(4, "(0): the last one.");
        SummerHouses x = Check.of("coals 1; coals 2; roof 3; roof 4;");
        Edge.is("COALS", x.count(2), 2);
        Edge.is("ROOF", x.count(18), 4);
        Edge.is("HAIL", hailDays("hail 100; hail 0;"), 0);
        Edge.is("HAIL", hailDays("hail 0; hail 100;"), (1 << 30) - 1);
        Edge.is("SEED", hailDays("hail 50; seed 8; seed 77;"), hailDays("hail 50; seed 77;"));
        refused("coals 1000; coals 2;", WRONG, 6);
        Edge.of(4, "if not told; the last one.");
        for (int i = 0; i < 4; i++) {
            SummerHouses y = Check.of("house a 1 0 9 0 0;" + LAWS[i] + "=7;" + LAWS[(i + 1) % 4] + "=4;" + LAWS[i] + "=2;");
            Edge.is("the last " + LAWS[i], y.house(0, 7 + i), 2);
            Edge.is("the other", y.house(0, 7 + (i + 1) % 4), 4);
        }
    }

    // ---- promises 4 and 5: FAULTS and their places

    private static void placeOfFaults() {
        Edge.of(5, "the first by its place (a byte; the text's end: its length)");
        refused("x", SYNTAX, 0);
        refused("  x", SYNTAX, 2);
        refused("coals", SYNTAX, 5);
        refused("coals  ", SYNTAX, 7);
        refused("coals 5 \n", SYNTAX, 9);
        refused("coals 5;x", SYNTAX, 8);
        refused("house a 1 0 0 0", SYNTAX, 15);
        refused("x y", SYNTAX, 0);
        Edge.of(5, "The byte of the latest read()'s FAULT; NONE without.");
        taken("coals 5;");
    }

    /** fades = 1 + 1 + .. ; of so many tokens (even, from 4 on); it has as many bytes and four more. */
    private static String law(int tokens) {
        return "fades=1" + "+1".repeat((tokens - 4) / 2) + ";";
    }

    private static void leastOfOnePlace() {
        Edge.of(4, "of one place the least");
        // What is at the 401st place of all is ROOM if a text could go on with it, else SYNTAX.
        refused(law(400) + "coals", ROOM, 404);
        refused(law(400) + "heat", SYNTAX, 404);
        refused(law(400) + "?", SYNTAX, 404);
        refused(law(400) + "12345", SYNTAX, 404);
        refused(law(400) + "abcdefghi", SYNTAX, 404);
        refused(law(400) + ";", SYNTAX, 404);
        refused(law(400).replace(";", "="), SYNTAX, 403);
        refused(law(400).replace(";", "+="), SYNTAX, 404);
        refused(law(400).replace(";", "+2"), ROOM, 404);
        refused(law(400).replace(";", "+)"), SYNTAX, 404);
        Edge.of(4, "1 SYNTAX: a TOKEN, or what is none, with which no text goes on.");
        refused("cools 5;", SYNTAX, 6);
        refused("coals \u00e9;", SYNTAX, 6);
        refused("house 5", SYNTAX, 6);
        refused("kept", SYNTAX, 0);
    }

    private static void tokens401() {
        Edge.of(4, "2 ROOM: a 401st TOKEN");
        taken(law(400));
        taken(law(400) + " \n");
        taken(law(200) + law(200));
        refused(law(402), ROOM, 404);
        refused(law(400) + "coals 5;", ROOM, 404);
        refused(law(400) + " roof", ROOM, 405);
        refused(law(398) + "coals 5;", ROOM, law(398).length() + 7);
        refused(law(400).replace(";", ""), SYNTAX, 403);
        taken(law(382) + housesOf(2) + "\n");
        taken(housesOf(1) + law(392).replace(";", " ;"));
        refused(law(384) + housesOf(2) + "x", SYNTAX, law(384).length() + housesOf(2).length());
        refused(law(384) + housesOf(2) + "house", ROOM, law(384).length() + housesOf(2).length());
    }

    private static void fifthIf() {
        Edge.of(4, "a 5th if of a LAW (at it)");
        String one = "if 1<2 then 3 else ";
        String four = one.repeat(4);
        for (String law : LAWS) {
            taken(law + "=" + four + "1;");
            refused(law + "=" + four + one + "1;", ROOM, 6 + four.length());
            refused(law + "=" + four + "if", ROOM, 6 + four.length());
        }
        taken("cools=" + four + "1;warms=" + four + "1;fades=" + four + "1;mends=" + four + "1;");
        taken("cools=" + four + "1;cools=" + four + "1;");
        refused("cools=" + four + "1;cools=" + four + " if", ROOM, 7 + 2 * (6 + four.length() + 1) - 6);
        refused("cools=" + four + "then", SYNTAX, 6 + four.length());
        refused("cools=" + four + "(if 1<2 then 3 else 4);", SYNTAX, 7 + four.length());
    }

    private static void seventhBracket() {
        Edge.of(4, "a 7th ( within one another (at it)");
        String six = "((((((1))))))";
        taken("cools=" + six + ";");
        refused("cools=(" + six + ");", ROOM, 12);
        refused("cools=(((((((", ROOM, 12);
        refused("cools=((((((?", SYNTAX, 12);
        refused("cools=((((((", SYNTAX, 12);
        taken("cools=" + six + "+" + six + "*" + six + ";");
        refused("cools=" + six + "*(" + six + ");", ROOM, 6 + 13 + 1 + 6);
        taken("cools=(((((1)+(2))*((3)-(4)))));");
        taken("cools=((((((1)+(2))*((3)-(4))))));");
        refused("cools=((((((1+(2))))))) ;", ROOM, 14);
        taken("cools=if " + six + "<" + six + "then" + six + "else" + six + ";");
        refused("cools=if (" + six + ")<1 then 1 else 1;", ROOM, 15);
        refused("cools=if 1<(" + six + ")then 1 else 1;", ROOM, 17);
        refused("cools=if 1<1 then(" + six + ")else 1;", ROOM, 23);
        refused("cools=if 1<1 then 1 else(" + six + ");", ROOM, 30);
        taken("cools=" + six + ";warms=" + six + ";");
    }

    private static void twice() {
        Edge.of(4, "3 TWICE: a NAME told already.");
        String one = "house a 1 0 0 0 0;";
        refused(one + one, TWICE, one.length() + 6);
        refused(housesOf(5) + "house e 1 0 0 0 0;", TWICE, housesOf(5).length() + 6);
        refused(housesOf(5) + "house a 1 0 0 0 0;", TWICE, housesOf(5).length() + 6);
        taken(housesOf(5) + "house f 1 0 0 0 0;");
        taken(one + "house aa 1 0 0 0 0;house aaa 1 0 0 0 0;");
        refused("house abcdefgh 1 0 0 0 0;house abcdefgh 1 0 0 0 0;", TWICE, 31);
        refused(one + one + one, TWICE, one.length() + 6);
        // A name of the text ahead is none that is told already.
        SummerHouses x = Check.of(one);
        Edge.is("read() of the same names", Check.read(x, one), 0);
    }

    private static void wrong() {
        Edge.of(4, "5 WRONG (at the INT): a number not as told above.");
        refused("coals\n\n1000 ;", WRONG, 7);
        refused("house a 1 0 0 0 0 ;roof  0;", WRONG, 25);
        refused("house a   21 0 0 0 0;", WRONG, 10);
        refused("house a 0 100 1000 100 100;", WRONG, 8);
        refused("house a 1 100 1000 100 100;", WRONG, 10);
        refused("house a 1 0 1000 100 100;", WRONG, 12);
        refused("house a 1 0 0 100 100;", WRONG, 14);
        refused("house a 1 0 0 0 100;", WRONG, 16);
        taken("cools=9999;warms=9999;fades=9999;mends=9999;");
        taken("cools=0;warms=0;fades=0;mends=0;");
    }

    private static void firstFaults() {
        Edge.of(4, "If there is none, likewise: 3 TWICE");
        String one = "house a 1 0 0 0 0;";
        refused(one + one + "x", SYNTAX, 2 * one.length());
        refused("roof 0;x", SYNTAX, 7);
        refused("roof 0", SYNTAX, 6);
        refused("roof 0;" + housesOf(7), ROOM, 7 + housesOf(6).length());
        refused("roof 0;cools=(((((((1)))))));", ROOM, 19);
        refused(one + "house a 0 0 0 0 0;", TWICE, one.length() + 6);
        refused("house a 0 0 0 0 0;" + one, WRONG, 8);
        refused("roof 0;" + one + one, WRONG, 5);
        refused(one + one + "roof 0;", TWICE, one.length() + 6);
        refused("roof 0;hail 101;", WRONG, 5);
        Edge.of(4, "FAULTS of a text, the first by its place");
        refused("cools=(((((((1)))))));x", ROOM, 12);
        refused("x cools=(((((((1)))))));", SYNTAX, 0);
        refused(housesOf(7) + "cools=(((((((1)))))));", ROOM, housesOf(6).length());
        refused("cools=(((((((1)))))));" + housesOf(7), ROOM, 12);
        refused(housesOf(7).substring(0, housesOf(7).length() - 1), ROOM, housesOf(6).length());
    }

    private static void changesNothing() {
        Edge.of(4, "A text with a FAULT changes nothing but the tape");
        String good = "house q 9 9 9 9 9; cools=9; warms=9; fades=9; mends=9; coals 9; roof 9; hail 9; seed 9;";
        refused(good + "?", SYNTAX, good.length());
        refused(good + "cools=(((((((", ROOM, good.length() + 12);
        refused(good + "house q 9 9 9 9 9;", TWICE, good.length() + 6);
        refused(good + "roof 100;", WRONG, good.length() + 5);
        SummerHouses x = Edge.busy();
        Check.feed(x, "?");
        int bytes = x.count(8);
        Edge.is("read() of what was on the tape", x.read(), SYNTAX);
        Edge.is("place()", x.place(), bytes - 1);
        Edge.is("the tape", x.count(8), 0);
        Edge.is("count(0)", x.count(0), 3);
        Edge.is("count(1)", x.count(1), 3);
        Edge.is("count(9)", x.count(9), 4);
        Edge.is("count(10)", x.count(10), 2);
        Edge.is("count(11)", x.count(11), 1);
    }

    private static void inPlaceOfTheOneAhead() {
        Edge.of(4, "else it is in place of the one ahead: day 0, no pane broken, all doors shut, no leaves, nothing burnt; nothing can be undone, nothing is TOLD, SLOTS hold nothing.");
        String[] texts = {"", Edge.THREE, "house q 9 9 9 9 9;", housesOf(6)};
        for (String text : texts) {
            SummerHouses x = Edge.busy();
            x.back(x.count(8));
            x.hold(0);
            x.hold(2);
            Edge.is("something is broken", x.count(5) > 0, true);
            Edge.is("read()", Check.read(x, text), 0);
            for (int what : new int[] {1, 5, 6, 8, 9, 10, 11, 14, 16, 19}) {
                Edge.is("count(" + what + ") behind " + text, x.count(what), 0);
            }
            for (int h = 0; h < x.count(0); h++) {
                for (int what : new int[] {1, 4, 5, 6}) {
                    Edge.is("house(" + h + ", " + what + ") behind " + text, x.house(h, what), 0);
                }
            }
            Edge.is("undo()", x.undo(), false);
            for (int slot = 0; slot < 3; slot++) {
                Edge.is("restore(" + slot + ")", x.restore(slot), false);
            }
            Edge.is("whose(1, 0)", x.whose(1, 0), NONE);
            Edge.alike("as on a new object: " + text, x, Check.of(text));
        }
    }

    private static String sixOf(int panes, int heat, int kept, int apart) {
        StringBuilder s = new StringBuilder();
        for (int h = 0; h < 6; h++) {
            s.append(Edge.house(String.valueOf((char) ('a' + h)), panes + h, heat + h, kept - 7 * h, apart * h, 99 - apart * h));
        }
        return s.toString();
    }

    /** What was found for more houses, by other laws and another seed, is no part of what is found then. */
    private static void nothingIsLeftOfTheOneAhead() {
        Edge.of(4, "else it is in place of the one ahead");
        String rich = sixOf(9, 5, 900, 11) + "cools=9;warms=3;fades=90-heat;mends=9;coals 9;roof 30;hail 100;seed 77;";
        String[] texts = {"", "hail 50;", Edge.keeping(9), "hail 50;" + Edge.keeping(60, 50),
            "hail 50;" + Edge.glazed(20, 3, 9, 1), Edge.standing(1, 2, 3, 4, 9, 0) + "hail 90;",
            Edge.keeping(90, 80, 70) + "hail 40;fades=9-burnt;", sixOf(1, 0, 60, 3)};
        for (String text : texts) {
            SummerHouses x = Check.of(rich);
            Edge.answers(x);
            Edge.is("read()", Check.read(x, text), 0);
            SummerHouses fresh = Check.of(text);
            Edge.is("all that is asked of " + brief(text), Edge.answers(x).equals(Edge.answers(fresh)), true);
        }
        for (String untold : new String[] {"coals 9;", "roof 9;", "hail 50;", "seed 9;", "cools=9;"}) {
            SummerHouses x = Check.of("coals 8;roof 8;hail 100;seed 8;cools=8;warms=8;fades=8;mends=8;" + Edge.keeping(90));
            Edge.is("read()", Check.read(x, untold + Edge.keeping(90)), 0);
            Edge.is("HAIL by " + untold, hailDays(x), hailDays(untold + Edge.keeping(90)));
            for (int i = 0; i < 30; i++) {
                x.undo();
            }
            Edge.alike("all else is as untold", x, Check.of(untold + Edge.keeping(90)));
        }
    }

    private static void readEmptiesTheTape() {
        Edge.of(4, "The tape, which is empty then, is read: 0, or the number of its FAULT.");
        SummerHouses x = new SummerHouses();
        Edge.is("read() of nothing", x.read(), 0);
        Edge.is("read()", Check.read(x, "coals 7;"), 0);
        Edge.is("count(8)", x.count(8), 0);
        Edge.is("back(1)", x.back(1), NONE);
        Edge.is("read() of nothing", x.read(), 0);
        Edge.is("count(2): another text is in its place", x.count(2), 20);
        Edge.is("read()", Check.read(x, "coals 7"), SYNTAX);
        Edge.is("count(8)", x.count(8), 0);
        Edge.is("back(1)", x.back(1), NONE);
        // What was read is no part of what comes then.
        Check.feed(x, ";");
        Edge.is("read()", x.read(), SYNTAX);
        Edge.is("place()", x.place(), 0);
        SummerHouses full = taped(2000);
        full.read();
        Edge.is("feed() again", full.feed(0, 0, 0, 0, 0), 20);
    }

    private static void latestPlace() {
        Edge.of(5, "The byte of the latest read()'s FAULT; NONE without.");
        SummerHouses x = new SummerHouses();
        Edge.is("place() of a new object", x.place(), NONE);
        Check.read(x, "roof 0;");
        Edge.is("place()", x.place(), 5);
        Edge.is("place() again", x.place(), 5);
        Check.feed(x, "x");
        Edge.is("place() ahead of read()", x.place(), 5);
        x.read();
        Edge.is("place()", x.place(), 0);
        x.days(1);
        x.undo();
        x.hold(0);
        x.restore(0);
        Edge.is("place() behind other calls", x.place(), 0);
        x.read();
        Edge.is("place() without", x.place(), NONE);
    }
}
