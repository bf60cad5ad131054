/** Promises 23 to 26: rounds and tosses. */
public final class RoundsTossesTest {
    private static final Checks CHECKS = new Checks();
    private static final FirstPancake X = new FirstPancake();

    private static void due(String call, long got, long want) {
        CHECKS.due(call, got, want);
    }

    private static void roundsDue(int[] of, int by, int most, int waited) {
        String call = "rounds(" + of[0] + ", " + of[1] + ", " + of[2] + ", " + of[3] + ", " + by + ", ";
        due(call + "0)", X.rounds(of[0], of[1], of[2], of[3], by, 0), most);
        due(call + "1)", X.rounds(of[0], of[1], of[2], of[3], by, 1), waited);
    }

    private static void promise23OnePan() {
        int[] quick = {1, 1, 1, 1};
        roundsDue(quick, 0, 0, 0);
        roundsDue(quick, 4, 0, 0);
        roundsDue(quick, 5, 1, 0);
        roundsDue(quick, 9, 1, 0);
        roundsDue(quick, 10, 2, 0);
        roundsDue(quick, 999, 199, 0);
        int[] slow = {1, 10, 7, 3};
        roundsDue(slow, 25, 0, 0);
        roundsDue(slow, 26, 1, 0);
        roundsDue(slow, 52, 2, 0);
    }

    /**
     * Two pans, 10 and 10, hands 3: 0 is poured from 0, 1 from 3 (it waited 3), 0 is turned from 13, 1 from 16,
     * 0 taken out from 26, 1 wants it from 29, when 0 wants to be poured, too: 0 is the least and has wanted as long.
     */
    private static void promise23TwoPans() {
        int[] two = {2, 10, 10, 3};
        roundsDue(two, 3, 0, 0);
        roundsDue(two, 4, 0, 3);
        roundsDue(two, 28, 0, 3);
        roundsDue(two, 29, 1, 3);
        roundsDue(two, 34, 1, 3);
        roundsDue(two, 35, 2, 3);
        int[] three = {3, 1, 1, 2};
        // 0, 1, 2 are poured from 0, 2, 4; 0 is turned from 6 (wanted from 3), 1 from 8 (5), 2 from 10 (7).
        roundsDue(three, 2, 0, 0);
        roundsDue(three, 3, 0, 2);
        roundsDue(three, 4, 0, 2);
        roundsDue(three, 5, 0, 4);
        // 0 is taken out from 12 (9), 1 from 14 (11), 2 from 16 (13); 0 is poured from 18 (14).
        roundsDue(three, 13, 0, 4);
        roundsDue(three, 14, 1, 4);
        roundsDue(three, 18, 3, 4);
        roundsDue(three, 36, 6, 4);
    }

    private static void promise23Outside() {
        int[] fine = {1, 1, 1, 1, 0, 0};
        int[] least = {1, 1, 1, 1, 0, 0};
        int[] most = {9, 99, 99, 9, 999, 1};
        due("the least of all", X.rounds(1, 1, 1, 1, 0, 0), 0);
        due("the most of all", X.rounds(9, 99, 99, 9, 999, 1) >= 0 ? 1 : 0, 1);
        for (int i = 0; i < 6; i++) {
            for (int wrong : new int[] {least[i] - 1, most[i] + 1, Integer.MIN_VALUE, Integer.MAX_VALUE}) {
                int[] a = fine.clone();
                a[i] = wrong;
                due("rounds with " + wrong + " at " + i, X.rounds(a[0], a[1], a[2], a[3], a[4], a[5]),
                        Checks.OUTSIDE);
            }
        }
    }

    private static void promise24Toss() {
        due("2 turns", X.toss(4, 5), 1);
        due("1.9, rounded down", X.toss(19, 1), 0);
        due("2.9, rounded down", X.toss(29, 1), 1);
        due("3", X.toss(30, 1), 0);
        due("4", X.toss(20, 2), 0);
        due("6", X.toss(6, 10), 1);
        due("90", X.toss(30, 30), 1);
        due("0", X.toss(1, 1), 0);
        for (int wrong : new int[] {0, -1, 31, Integer.MIN_VALUE, Integer.MAX_VALUE}) {
            due("toss(" + wrong + ", 5)", X.toss(wrong, 5), Checks.OUTSIDE);
            due("toss(5, " + wrong + ")", X.toss(5, wrong), Checks.OUTSIDE);
        }
    }

    private static void landsDue(int pace, int spin, int slip, int above, int below) {
        String call = "lands(" + pace + ", " + spin + ", " + slip + ", ";
        due(call + "0)", X.lands(pace, spin, slip, 0), above);
        due(call + "1)", X.lands(pace, spin, slip, 1), below);
    }

    private static void promise25Lands() {
        landsDue(4, 5, 0, 1, 1);
        landsDue(3, 5, 0, 0, 1);
        landsDue(4, 5, 1, 2, 3);
        landsDue(4, 5, 2, 2, 5);
        // Of 1 to 6, by spin 10, 2 and 6 land.
        landsDue(3, 10, 3, 1, 3);
        // Of 1 to 10, 2, 6 and 10.
        landsDue(1, 10, 9, 3, 10);
        // Of 29 to 31, above 30, too: 30.
        landsDue(30, 10, 1, 1, 3);
        // Of 21 to 39: 22, 26, 30, 34, 38.
        landsDue(30, 10, 9, 5, 19);
        for (int[] a : new int[][] {{0, 1, 0, 0}, {31, 1, 0, 0}, {1, 0, 0, 0}, {1, 31, 0, 0}, {1, 1, -1, 0},
            {1, 1, 10, 0}, {1, 1, 0, -1}, {1, 1, 0, 2}, {Integer.MAX_VALUE, 1, 9, 0}}) {
            due("lands of " + a[0] + " " + a[1] + " " + a[2] + " " + a[3], X.lands(a[0], a[1], a[2], a[3]),
                    Checks.OUTSIDE);
        }
    }

    private static void promise26BestSpin() {
        for (int pace = 1; pace <= 30; pace++) {
            for (int slip = 0; slip <= 9; slip++) {
                int best = 1;
                for (int spin = 2; spin <= 30; spin++) {
                    int here = X.lands(pace, spin, slip, 0) * X.lands(pace, best, slip, 1);
                    int there = X.lands(pace, best, slip, 0) * X.lands(pace, spin, slip, 1);
                    best = here > there ? spin : best;
                }
                due("bestSpin(" + pace + ", " + slip + ")", X.bestSpin(pace, slip), best);
            }
        }
        due("bestSpin(1, 0)", X.bestSpin(1, 0), 20);
        due("bestSpin(20, 0)", X.bestSpin(20, 0), 1);
        for (int[] a : new int[][] {{0, 0}, {31, 0}, {1, -1}, {1, 10}, {-7, 0}, {1, Integer.MAX_VALUE}}) {
            due("bestSpin(" + a[0] + ", " + a[1] + ")", X.bestSpin(a[0], a[1]), Checks.OUTSIDE);
        }
    }

    public static void main(String[] args) {
        promise23OnePan();
        promise23TwoPans();
        promise23Outside();
        promise24Toss();
        promise25Lands();
        promise26BestSpin();
        CHECKS.end();
    }
}
