/** The boundary cases of rounds and tosses (promises 23 to 26). */
final class RoundsBoundaries {
    private final Sentences s;
    private final FirstPancake x = new FirstPancake();

    RoundsBoundaries(Sentences s) {
        this.s = s;
    }

    void all() {
        howManyPans();
        oneCake();
        handsAndPan();
        emptyPans();
        whoIsNext();
        most();
        waited();
        tosses();
        wrists();
        promise23();
        promise24();
        promise25();
        promise26();
    }

    private void mostDue(String step, int most, int pans, int first, int second, int hands, int by) {
        s.due(step + ", MOST by " + by, x.rounds(pans, first, second, hands, by, 0), most);
    }

    private void waitedDue(String step, int waited, int pans, int first, int second, int hands, int by) {
        s.due(step + ", WAITED by " + by, x.rounds(pans, first, second, hands, by, 1), waited);
    }

    /** All lie for long, so the hands pour one pan behind the other. */
    private void howManyPans() {
        s.says("Terms", "ROUNDS: so many pans (1 to 9), one pair of hands.");
        for (int pans = 1; pans <= 9; pans++) {
            for (int hands : new int[] {1, 2, 8, 9}) {
                int last = hands * (pans - 1);
                waitedDue(pans + " pans", Math.max(0, last - hands), pans, 99, 99, hands, last);
                waitedDue(pans + " pans", last, pans, 99, 99, hands, last + 1);
                waitedDue(pans + " pans", last, pans, 99, 99, hands, 99 + hands);
            }
        }
    }

    private void oneCake() {
        s.says("Terms", " Each CAKE is poured, lies so long on its first side, is turned, lies so long on the other, is "
                + "taken out");
        int[][] sides = {{1, 1, 1}, {2, 1, 1}, {1, 2, 1}, {1, 1, 2}, {99, 1, 1}, {1, 99, 1}, {1, 1, 9}, {99, 99, 9}};
        for (int[] side : sides) {
            int round = side[0] + side[1] + 3 * side[2];
            mostDue("one pan", 0, 1, side[0], side[1], side[2], round - 1);
            mostDue("one pan", 1, 1, side[0], side[1], side[2], round);
            mostDue("one pan", 1, 1, side[0], side[1], side[2], 2 * round - 1);
            mostDue("one pan", 2, 1, side[0], side[1], side[2], 2 * round);
            mostDue("one pan", 999 / round, 1, side[0], side[1], side[2], 999);
            waitedDue("one pan never waits", 0, 1, side[0], side[1], side[2], 999);
        }
    }

    /** With nine pans and short sides the hands never rest: each CAKE takes three times as long as they are kept. */
    private void handsAndPan() {
        s.says("Terms", "; pouring, turning, taking out keep the hands for so long each, and the pan with them");
        for (int hands : new int[] {2, 3, 9}) {
            int all = 27 * hands;
            mostDue("the first of nine", 0, 9, 1, 1, hands, 19 * hands - 1);
            mostDue("the first of nine", 1, 9, 1, 1, hands, 19 * hands);
            mostDue("the second of nine", 2, 9, 1, 1, hands, 20 * hands);
            mostDue("the ninth of nine", 8, 9, 1, 1, hands, all - 1);
            mostDue("the ninth of nine", 9, 9, 1, 1, hands, all);
        }
        // Poured until 3, so on its side until 13, turned until 16, on the other until 23, taken out until 26.
        mostDue("the pan is kept with them", 0, 1, 10, 7, 3, 25);
        mostDue("the pan is kept with them", 1, 1, 10, 7, 3, 26);
    }

    private void emptyPans() {
        s.says("Terms", "; a pan that is empty wants to be poured, at first, too (from second 0).");
        waitedDue("at first", 0, 2, 50, 50, 5, 5);
        waitedDue("at first", 5, 2, 50, 50, 5, 6);
        // Emptied at 5, poured from then on: the next one is out at 10.
        mostDue("and when it has been emptied", 1, 1, 1, 1, 1, 9);
        mostDue("and when it has been emptied", 2, 1, 1, 1, 1, 10);
    }

    /**
     * Two pans, sides of 10, hands 3: 0 is poured until 3, 1 until 6, 0 turned until 16, 1 until 19, 0 taken out until
     * 29. From 29 on 0 wants to be poured and 1, turned until 19, to be taken out: 0 is the least, so 1 waits until 32.
     */
    private void whoIsNext() {
        s.says("Terms", " Whenever the hands are free, they go to the pan that has wanted them longest (of like ones the "
                + "least), if any does.");
        mostDue("of like ones the least", 1, 2, 10, 10, 3, 29);
        mostDue("of like ones the least", 1, 2, 10, 10, 3, 32);
        mostDue("of like ones the least", 1, 2, 10, 10, 3, 34);
        mostDue("of like ones the least", 2, 2, 10, 10, 3, 35);
        // Nine pans, sides of 1, hands 1: 0 is emptied at 19, and 8, turned until 18, wants to be taken out from then on.
        mostDue("0 is poured ahead of the ninth", 8, 9, 1, 1, 1, 27);
        mostDue("0 is poured ahead of the ninth", 9, 9, 1, 1, 1, 28);
        // Two pans, first sides of 1, hands 3: 0 is taken out until 15; turned until 12, 1 wants to be from 14 or 15 on.
        mostDue("longer by a second", 1, 2, 1, 2, 3, 17);
        mostDue("longer by a second", 2, 2, 1, 2, 3, 18);
        mostDue("as long", 1, 2, 1, 3, 3, 18);
        mostDue("as long", 1, 2, 1, 3, 3, 20);
        mostDue("as long", 2, 2, 1, 3, 3, 21);
        // Three pans, sides of 1, hands 2: at 4 pan 2 has wanted them from 0 on, pan 0 from 3 on.
        waitedDue("longest, not least", 2, 3, 1, 1, 2, 4);
        waitedDue("longest, not least", 4, 3, 1, 1, 2, 5);
        // One pan alone: nobody wants them from 1 to 50, so they rest.
        mostDue("if any does", 0, 1, 49, 1, 1, 52);
        mostDue("if any does", 1, 1, 49, 1, 1, 53);
    }

    private void most() {
        s.says("Terms", " MOST: how many CAKES were taken out wholly by a second.");
        mostDue("none by the start", 0, 9, 1, 1, 1, 0);
        // One pan, 1, 1, hands 9: taken out from 20 to 29.
        mostDue("not yet begun", 0, 1, 1, 1, 9, 20);
        mostDue("begun", 0, 1, 1, 1, 9, 21);
        mostDue("all but a second", 0, 1, 1, 1, 9, 28);
        mostDue("wholly", 1, 1, 1, 1, 9, 29);
        mostDue("and a second more", 1, 1, 1, 1, 9, 30);
        mostDue("the last second", 199, 1, 1, 1, 1, 999);
        mostDue("the last second", 198, 1, 1, 1, 1, 994);
        mostDue("the last second", 199, 1, 1, 1, 1, 995);
        // Nine pans, sides of 1, hands 2: nine CAKES in 54 seconds, so 162 in 972, and the next one at 1010.
        mostDue("nine pans", 161, 9, 1, 1, 2, 971);
        mostDue("nine pans", 162, 9, 1, 1, 2, 972);
        mostDue("nine pans", 162, 9, 1, 1, 2, 999);
    }

    private void waited() {
        s.says("Terms", " WAITED: the longest that any pan wanted them, before they came, of those to which they came "
                + "ahead of that second (an empty one, too).");
        waitedDue("nobody yet", 0, 9, 9, 9, 9, 0);
        waitedDue("the first at once", 0, 9, 9, 9, 9, 1);
        // Pan 1 waits from 0 to 9: by 9 they have not come ahead of it.
        waitedDue("they come at that second", 0, 9, 99, 99, 9, 9);
        waitedDue("they came ahead of it", 9, 9, 99, 99, 9, 10);
        waitedDue("and until the next one", 9, 9, 99, 99, 9, 18);
        waitedDue("an empty one, too", 18, 9, 99, 99, 9, 19);
        waitedDue("all nine", 63, 9, 99, 99, 9, 72);
        waitedDue("all nine", 72, 9, 99, 99, 9, 73);
        waitedByAll();
    }

    /** Whoever wants them waits for each other pan once at most; at the start all do, so no later one waits longer. */
    private void waitedByAll() {
        for (int pans = 1; pans <= 9; pans++) {
            for (int hands = 1; hands <= 9; hands++) {
                for (int by : new int[] {1, 2, 8, 9, 10, 18, 19, 36, 37, 72, 73, 74, 500, 999}) {
                    int came = Math.min(pans, (by + hands - 1) / hands);
                    waitedDue(pans + " pans, hands " + hands, (came - 1) * hands, pans, 1 + by % 7, 5, hands, by);
                }
            }
        }
    }

    private void tosses() {
        s.says("Terms", "A TOSS with PACE (1 to 30) and SPIN (1 to 30)");
        for (int pace = 0; pace <= 31; pace++) {
            for (int spin = 0; spin <= 31; spin++) {
                boolean outside = pace < 1 || pace > 30 || spin < 1 || spin > 30;
                int due = outside ? Checks.OUTSIDE : lands(pace, spin) ? 1 : 0;
                s.due("toss(" + pace + ", " + spin + ")", x.toss(pace, spin), due);
            }
        }
        s.says("Terms", ": it makes PACE times SPIN by 10 (rounded down) quarter turns");
        s.due("19 by 10", x.toss(19, 1), 0);
        s.due("20 by 10", x.toss(20, 1), 1);
        s.due("21 by 10", x.toss(21, 1), 1);
        s.due("29 by 10", x.toss(1, 29), 1);
        s.due("30 by 10", x.toss(1, 30), 0);
        s.due("9 by 10 is none", x.toss(9, 1), 0);
        s.due("58 by 10", x.toss(29, 2), 0);
        s.due("60 by 10", x.toss(30, 2), 1);
        s.says("Terms", "; it LANDS, if their rest by 4 is 2.");
        for (int turns = 1; turns <= 30; turns++) {
            s.due(turns + " quarter turns", x.toss(turns, 10), turns % 4 == 2 ? 1 : 0);
            s.due(3 * turns + " quarter turns", x.toss(turns, 30), 3 * turns % 4 == 2 ? 1 : 0);
        }
    }

    private static boolean lands(int pace, int spin) {
        return Math.floorDiv(pace * spin, 10) % 4 == 2;
    }

    /** How many PACES there are, and by how many it LANDS. */
    private static int[] paces(int pace, int spin, int slip) {
        int[] row = new int[2];
        for (int off = -slip; off <= slip; off++) {
            if (pace + off >= 1) {
                row[1]++;
                row[0] += lands(pace + off, spin) ? 1 : 0;
            }
        }
        return row;
    }

    private void wrists() {
        s.says("Terms", " By a wrist that slips by 0 to 9: each PACE that is off by that at most (1 at least), as likely.");
        for (int slip = 0; slip <= 9; slip++) {
            // By SPIN 1 each PACE from 20 to 29 LANDS: the outermost ones count as much as the one in the middle.
            likelyDue(20, 1, slip, slip + 1, 2 * slip + 1);
            likelyDue(19, 1, slip, slip, 2 * slip + 1);
            likelyDue(30, 1, slip, slip, 2 * slip + 1);
        }
        // PACES 2 to 4, 1 to 5, 1 to 6, 1 to 7 by SPIN 10: 2, and from 1 to 6 on 6, too.
        likelyDue(3, 10, 1, 1, 3);
        likelyDue(3, 10, 2, 1, 5);
        likelyDue(3, 10, 3, 2, 6);
        likelyDue(3, 10, 4, 2, 7);
        likelyDue(1, 10, 0, 0, 1);
        likelyDue(1, 10, 1, 1, 2);
        likelyDue(1, 20, 9, 5, 10);
        // Above 30 there are PACES, too: 31 to 39, of which by SPIN 10 34 and 38.
        likelyDue(30, 10, 3, 1, 7);
        likelyDue(30, 10, 4, 3, 9);
        likelyDue(30, 10, 8, 5, 17);
        s.due("slip -1", x.lands(20, 1, -1, 0), Checks.OUTSIDE);
        s.due("slip 10", x.lands(20, 1, 10, 0), Checks.OUTSIDE);
    }

    private void likelyDue(int pace, int spin, int slip, int above, int below) {
        int told = x.lands(pace, spin, slip, 0) * below;
        s.due(pace + ", " + spin + ", off by " + slip, told, x.lands(pace, spin, slip, 1) * above);
    }

    private static final int[] LEAST = {1, 1, 1, 1, 0, 0};
    private static final int[] MOST = {9, 99, 99, 9, 999, 1};

    private void promise23() {
        s.says("Promise 23", "ROUNDS: what = 0 MOST, 1 WAITED.");
        s.due("MOST", x.rounds(3, 30, 20, 3, 200, 0), 9);
        s.due("WAITED", x.rounds(3, 30, 20, 3, 200, 1), 6);
        s.says("Promise 23", " OUTSIDE: pans, first, second (1 to 99), hands (1 to 9), by (0 to 999), what.");
        for (int place = 0; place < 6; place++) {
            for (int off : new int[] {-1, 0, 1}) {
                stepDue(place, LEAST[place] + off, off < 0);
                stepDue(place, MOST[place] + off, off > 0);
            }
            stepDue(place, Integer.MIN_VALUE, true);
            stepDue(place, Integer.MAX_VALUE, true);
        }
        // One CAKE takes 9, 99, 9, 99 and 9.
        int[] edges = {x.rounds(1, 99, 99, 9, 999, 0), x.rounds(9, 99, 99, 9, 73, 1), x.rounds(1, 1, 1, 1, 0, 1)};
        s.dueAll("all at the edge", edges, 999 / 225, 72, 0);
    }

    private void stepDue(int place, int value, boolean outside) {
        for (int[] others : new int[][] {LEAST, MOST}) {
            int[] a = others.clone();
            a[place] = value;
            int got = x.rounds(a[0], a[1], a[2], a[3], a[4], a[5]);
            s.due("argument " + place + " of " + value, outside ? got : Math.max(0, got), outside ? Checks.OUTSIDE : got);
        }
    }

    private void promise24() {
        s.says("Promise 24", "Whether a TOSS LANDS: 1, 0.");
        s.due("by 1", x.toss(1, 19), 0);
        s.due("by 2", x.toss(1, 20), 1);
        s.due("by 3", x.toss(1, 30), 0);
        s.due("the greatest", x.toss(30, 30), 1);
        s.due("the least", x.toss(1, 1), 0);
        s.says("Promise 24", " OUTSIDE: pace, spin.");
        for (int wrong : new int[] {Integer.MIN_VALUE, -1, 0, 31, 32, Integer.MAX_VALUE}) {
            s.due("pace " + wrong, x.toss(wrong, 20), Checks.OUTSIDE);
            s.due("spin " + wrong, x.toss(20, wrong), Checks.OUTSIDE);
            s.due("both " + wrong, x.toss(wrong, wrong), Checks.OUTSIDE);
        }
        s.due("pace 30", x.toss(30, 2), 1);
        s.due("spin 30", x.toss(2, 30), 1);
    }

    private void promise25() {
        s.says("Promise 25", "How likely it LANDS, by a wrist that slips, in lowest terms: part 0 above, 1 below.");
        for (int pace = 1; pace <= 30; pace++) {
            for (int spin = 1; spin <= 30; spin++) {
                for (int slip = 0; slip <= 9; slip++) {
                    int[] row = paces(pace, spin, slip);
                    int common = row[1];
                    while (row[0] % common != 0 || row[1] % common != 0) {
                        common--;
                    }
                    String call = "lands(" + pace + ", " + spin + ", " + slip + ", ";
                    s.due(call + "0)", x.lands(pace, spin, slip, 0), row[0] / common);
                    s.due(call + "1)", x.lands(pace, spin, slip, 1), row[1] / common);
                }
            }
        }
        s.due("never is 0", x.lands(1, 1, 9, 0), 0);
        s.due("by 1", x.lands(1, 1, 9, 1), 1);
        s.due("always is 1", x.lands(25, 1, 4, 0), 1);
        s.due("by 1", x.lands(25, 1, 4, 1), 1);
        s.due("2 of 6 is 1", x.lands(3, 10, 3, 0), 1);
        s.due("by 3", x.lands(3, 10, 3, 1), 3);
        s.says("Promise 25", " OUTSIDE: pace, spin, slip (0 to 9), part.");
        for (int wrong : new int[] {Integer.MIN_VALUE, -1, 31, 32, Integer.MAX_VALUE}) {
            s.due("pace " + wrong, x.lands(wrong, 1, 0, 0), Checks.OUTSIDE);
            s.due("spin " + wrong, x.lands(1, wrong, 0, 0), Checks.OUTSIDE);
            s.due("slip " + wrong, x.lands(1, 1, wrong, 0), Checks.OUTSIDE);
            s.due("part " + wrong, x.lands(1, 1, 0, wrong), Checks.OUTSIDE);
        }
        s.due("pace 0", x.lands(0, 1, 0, 0), Checks.OUTSIDE);
        s.due("pace 0, though it slips to 1", x.lands(0, 1, 1, 0), Checks.OUTSIDE);
        s.due("pace 31, though it slips to 30", x.lands(31, 1, 1, 0), Checks.OUTSIDE);
        s.due("spin 0", x.lands(1, 0, 0, 0), Checks.OUTSIDE);
        s.due("slip 9", x.lands(30, 30, 9, 1), 19);
        s.due("slip 10", x.lands(30, 30, 10, 1), Checks.OUTSIDE);
        s.due("part 2", x.lands(1, 1, 0, 2), Checks.OUTSIDE);
    }

    private void promise26() {
        s.says("Promise 26", "The least SPIN by which a TOSS LANDS likeliest, by such a wrist.");
        for (int pace = 1; pace <= 30; pace++) {
            for (int slip = 0; slip <= 9; slip++) {
                int best = 1;
                for (int spin = 2; spin <= 30; spin++) {
                    best = paces(pace, spin, slip)[0] > paces(pace, best, slip)[0] ? spin : best;
                }
                s.due("bestSpin(" + pace + ", " + slip + ")", x.bestSpin(pace, slip), best);
            }
        }
        s.due("20 to 29 all land by PACE 1: the least", x.bestSpin(1, 0), 20);
        s.due("SPIN 1", x.bestSpin(20, 0), 1);
        s.due("19 times 12 is the first that makes 22", x.bestSpin(19, 0), 12);
        s.says("Promise 26", " OUTSIDE: pace, slip.");
        for (int wrong : new int[] {Integer.MIN_VALUE, -1, 31, 32, Integer.MAX_VALUE}) {
            s.due("pace " + wrong, x.bestSpin(wrong, 0), Checks.OUTSIDE);
            s.due("slip " + wrong, x.bestSpin(1, wrong), Checks.OUTSIDE);
        }
        s.due("pace 0", x.bestSpin(0, 0), Checks.OUTSIDE);
        s.due("pace 30", x.bestSpin(30, 0), 2);
        s.due("slip 9", x.bestSpin(24, 9), 1);
        s.due("slip 10", x.bestSpin(24, 10), Checks.OUTSIDE);
    }
}
