/** What the tests of the project share: answers that are due, and texts put on THE PAGE. */
final class Checks {
    static final int NONE = -1, UNKNOWN = -101, OUTSIDE = -102, STATE = -103, FULL = -104;

    private int wrong;
    private int right;

    void due(String call, long got, long want) {
        if (got == want) {
            right++;
        } else {
            wrong++;
            System.out.println(call + " answered " + got + ", due is " + want);
        }
    }

    void dueAll(String call, int[] got, int... want) {
        due(call + " how many", got.length, want.length);
        for (int i = 0; i < want.length && i < got.length; i++) {
            due(call + " at " + i, got[i], want[i]);
        }
    }

    int wrongOnes() {
        return wrong;
    }

    /** Ends the test, with exit code 1 if an answer was wrong. */
    void end() {
        System.out.println(right + " answers as due, " + wrong + " not");
        if (wrong > 0 || right == 0) {
            System.exit(1);
        }
    }

    /** The first eight letters of a text as letters() takes them. */
    static long word(String text) {
        long w = 0;
        for (int i = 0; i < text.length() && i < 8; i++) {
            w |= (long) text.charAt(i) << (8 * i);
        }
        return w;
    }

    /** Puts a text of any length on THE PAGE: what the last call of letters() answered. */
    static int tell(FirstPancake x, String text) {
        int answer = 0;
        for (int i = 0; i < text.length(); i += 8) {
            answer = x.letters(word(text.substring(i)));
        }
        return answer;
    }

    static int pan(FirstPancake x, String text) {
        tell(x, text);
        return x.pan();
    }

    static int plan(FirstPancake x, String text) {
        tell(x, text);
        return x.plan();
    }

    /** A new object with a PAN and PLANS. */
    static FirstPancake with(String pan, String... plans) {
        FirstPancake x = new FirstPancake();
        pan(x, pan);
        for (String text : plans) {
            plan(x, text);
        }
        return x;
    }

    static int[] cakeRow(FirstPancake x, int cake) {
        int[] row = new int[7];
        for (int what = 0; what < 7; what++) {
            row[what] = x.cake(cake, what);
        }
        return row;
    }

    static int[] thickRow(FirstPancake x, int cake) {
        int[] row = new int[x.count(0)];
        for (int c = 0; c < row.length; c++) {
            row[c] = x.thick(cake, c);
        }
        return row;
    }

    static int[] warmthRow(FirstPancake x) {
        int[] row = new int[x.count(0)];
        for (int c = 0; c < row.length; c++) {
            row[c] = x.cell(c, 2);
        }
        return row;
    }
}
