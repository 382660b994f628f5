/** What the tests share: answers against what is due, and texts put on the tape. */
final class Check {
    private static int asked = 0;
    private static int wrong = 0;

    private Check() {
    }

    static void due(String call, long got, long want) {
        asked++;
        if (got != want) {
            wrong++;
            System.out.println(call + " answered " + got + ", due is " + want);
        }
    }

    static void due(String call, boolean got, boolean want) {
        due(call, got ? 1 : 0, want ? 1 : 0);
    }

    static boolean anyWrong() {
        return wrong > 0;
    }

    static void end(String test) {
        System.out.println(test + ": " + asked + " asked, " + wrong + " wrong");
        if (wrong > 0 || asked == 0) {
            System.exit(1);
        }
    }

    /** Puts a text (signs 0 to 255) on the tape, as it is. */
    static void feed(SummerHouses x, String text) {
        for (int from = 0; from < text.length(); from += 20) {
            int[] words = new int[5];
            for (int i = 0; i < 20; i++) {
                int sign = from + i < text.length() ? text.charAt(from + i) : ' ';
                words[i / 4] = words[i / 4] << 8 | sign;
            }
            if (x.feed(words[0], words[1], words[2], words[3], words[4]) == SummerHouses.NONE) {
                throw new IllegalStateException("the tape is full");
            }
        }
        int over = (20 - text.length() % 20) % 20;
        x.back(over);
    }

    static int read(SummerHouses x, String text) {
        feed(x, text);
        return x.read();
    }

    /** A new object with a text that has no fault. */
    static SummerHouses of(String text) {
        SummerHouses x = new SummerHouses();
        int fault = read(x, text);
        if (fault != 0) {
            throw new IllegalStateException("fault " + fault + " at " + x.place() + " of " + text);
        }
        return x;
    }
}
