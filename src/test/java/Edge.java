import java.io.IOException;
import java.nio.file.Files;
import java.nio.file.Path;
import java.util.ArrayList;
import java.util.List;
import java.util.TreeSet;

/**
 * What the tests at the document's boundaries share. Each stands under a promise's number and the document's own
 * words, which are looked up in ../shared/DOC.md, so that no test stands under words that are not there.
 */
final class Edge {
    static final int NONE = SummerHouses.NONE;
    static final int MIN = Integer.MIN_VALUE;
    static final int MAX = Integer.MAX_VALUE;

    interface Made {
        SummerHouses make();
    }

    interface Call {
        int answer(SummerHouses x);
    }

    interface YesNo {
        boolean answer(SummerHouses x);
    }

    private static final String DOC = doc();
    private static final TreeSet<Integer> PROMISES = new TreeSet<>();
    private static String label = "";
    private static int askedUnderIt = 1;

    private Edge() {
    }

    private static String doc() {
        try {
            return plain(Files.readString(Path.of("../shared/DOC.md")));
        } catch (IOException e) {
            throw new IllegalStateException(e);
        }
    }

    private static String plain(String text) {
        return text.replaceAll("\\s+", " ");
    }

    private static String part(String from, String to) {
        int at = DOC.indexOf(from);
        int end = DOC.indexOf(to, Math.max(0, at));
        return at < 0 || end < 0 ? "" : DOC.substring(at, end);
    }

    /** The tests that come are of these words of the promise, or of the terms that it speaks of. */
    static void of(int promise, String words) {
        noneIsEmpty();
        label = "promise " + promise + ", \"" + words + "\": ";
        askedUnderIt = 0;
        PROMISES.add(promise);
        String own = part("## Promise " + promise + ":", promise < 42 ? "## Promise " + (promise + 1) + ":" : "## Not promised");
        String told = part("# SummerHouses", "## The public face") + part("## Terms", "## Promise 1:") + own;
        Check.due(label + "stands in the document", told.contains(plain(words)), true);
    }

    private static void noneIsEmpty() {
        Check.due(label + "something is asked", askedUnderIt > 0, true);
    }

    static void end(String test, int first, int last) {
        noneIsEmpty();
        for (int promise = first; promise <= last; promise++) {
            Check.due("promise " + promise + " has a test", PROMISES.contains(promise), true);
        }
        Check.end(test);
    }

    static void is(String call, long got, long want) {
        askedUnderIt++;
        Check.due(label + call, got, want);
    }

    static void is(String call, boolean got, boolean want) {
        askedUnderIt++;
        Check.due(label + call, got, want);
    }

    // ---- nothing happens

    /** The call answers so, and behind it all is as on an object without it: what is, was, is held, told and taped. */
    static void same(Made made, String call, Call asked, int want) {
        SummerHouses x = made.make();
        is(call, asked.answer(x), want);
        alike(call, x, made.make());
    }

    static void same(Made made, String call, YesNo asked, boolean want) {
        SummerHouses x = made.make();
        is(call, asked.answer(x), want);
        alike(call, x, made.make());
    }

    /** Most calls are refused with NONE. */
    static void refused(Made made, String call, Call asked) {
        same(made, call, asked, NONE);
    }

    static void alike(String call, SummerHouses x, SummerHouses twin) {
        is(call + ": place() is as it was", x.place(), twin.place());
        alikeButPlace(call, x, twin);
    }

    /** Uses both up: what can be undone and what is held is gone through, and the tape is read. */
    static void alikeButPlace(String call, SummerHouses x, SummerHouses twin) {
        List<Integer> got = seen(x);
        List<Integer> want = seen(twin);
        is(call + ": nothing happens (" + got + " is " + want + ")", got.equals(want), true);
    }

    private static List<Integer> seen(SummerHouses x) {
        List<Integer> all = new ArrayList<>();
        for (int what = 0; what < 20; what++) {
            all.add(x.count(what));
        }
        seeHouses(x, all, 13);
        for (int k = 0; k <= x.count(10) && k <= 20; k++) {
            all.add(x.whose(k, 1));
        }
        for (int i = 0; i <= 40 && x.undo(); i++) {
            seeCounts(x, all);
        }
        for (int slot = 0; slot < 3; slot++) {
            if (x.restore(slot)) {
                seeCounts(x, all);
                seeHouses(x, all, 7);
            }
        }
        all.add(x.read());
        seeCounts(x, all);
        all.add(x.count(18));
        return all;
    }

    private static void seeCounts(SummerHouses x, List<Integer> all) {
        for (int what = 1; what <= 6; what++) {
            all.add(x.count(what));
        }
    }

    private static void seeHouses(SummerHouses x, List<Integer> all, int whats) {
        for (int h = 0; h < x.count(0) && h < 6; h++) {
            for (int what = 0; what < whats; what++) {
                all.add(x.house(h, what));
            }
        }
    }

    /** What is asked of an object, each question once or a few times; some 250 calls with six houses. */
    static List<Integer> answers(SummerHouses x) {
        List<Integer> all = new ArrayList<>();
        int houses = x.count(0);
        for (int h = NONE; h <= houses; h++) {
            askOfHouse(x, h, all);
            for (int other = 0; other < houses; other++) {
                all.add(x.far(h, other));
                all.add(x.next(h, other));
            }
        }
        for (int what = 0; what < 3; what++) {
            all.add(x.plan(6, what));
            all.add(x.plan(1, what));
            all.add(x.worst(what));
            all.add(x.twins(what));
            all.add(x.draughty(what));
            all.add(x.whose(0, what));
        }
        all.add(x.enough());
        all.add(x.lasts());
        all.add(x.pipes());
        all.add(x.first());
        all.add(x.summers(1));
        all.add(x.look(0, 7));
        all.add(x.count(12));
        return all;
    }

    private static void askOfHouse(SummerHouses x, int h, List<Integer> all) {
        all.add(x.loss(h, 3));
        all.add(x.share(30, h));
        all.add(x.share(2, h));
        all.add(x.gone(h));
        all.add(x.cold(h));
        all.add(x.round(h));
        all.add(x.nearest(h));
        all.add(x.saves(h));
        all.add(x.roofs(h));
        all.add(x.paired(h));
        all.add(x.then(h, 20, 0));
        all.add(x.then(h, 20, 1));
        all.add(x.then(h, 20, 2));
        all.add(x.year(h, 9, 20));
    }

    // ---- objects and texts

    static String house(String name, int panes, int heat, int kept, int x, int y) {
        return "house " + name + " " + panes + " " + heat + " " + kept + " " + x + " " + y + ";";
    }

    /** Houses a, b, c .. of one pane, in which so much is kept. */
    static String keeping(int... kept) {
        StringBuilder s = new StringBuilder();
        for (int i = 0; i < kept.length; i++) {
            s.append(house(String.valueOf((char) ('a' + i)), 1, 0, kept[i], 0, 0));
        }
        return s.toString();
    }

    /** Houses a, b, c .. at x, y, x, y .. */
    static String standing(int... at) {
        StringBuilder s = new StringBuilder();
        for (int i = 0; i + 1 < at.length; i += 2) {
            s.append(house(String.valueOf((char) ('a' + i / 2)), 1, 0, 0, at[i], at[i + 1]));
        }
        return s.toString();
    }

    /** Houses a, b, c .. with so many panes. */
    static String glazed(int... panes) {
        StringBuilder s = new StringBuilder();
        for (int i = 0; i < panes.length; i++) {
            s.append(house(String.valueOf((char) ('a' + i)), panes[i], 0, 0, 0, 0));
        }
        return s.toString();
    }

    static SummerHouses text(String text) {
        return Check.of(text);
    }

    static final String THREE = "house aunt 4 10 100 0 0; house uncle 6 3 50 3 4; house twin 8 0 95 10 0;"
            + "cools = broken + 2; warms = 3; fades = if heat < 8 then 8 - heat else 0; mends = panes / 4;"
            + "coals 120; roof 12; hail 100; seed 4;";

    /** Three houses of which everything is in use: a fault, days, coals, doors, cuttings, told ones, slots, a tape. */
    static SummerHouses busy() {
        SummerHouses x = Check.of(THREE);
        Check.read(x, "roof 9; ?");
        x.days(3);
        x.hold(1);
        x.burn(1, 2);
        x.door(2, true);
        x.cut(0, 1);
        x.tell(0, 6, true);
        x.tell(2, 60, false);
        Check.feed(x, "roof 7; coals 3;");
        return x;
    }

    static SummerHouses empty() {
        return new SummerHouses();
    }
}
