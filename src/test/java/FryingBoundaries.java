/** The boundary cases of ticks, frying, kinds and worth, reckoned by hand (promises 9 to 15). */
final class FryingBoundaries {
    private final Sentences s;

    FryingBoundaries(Sentences s) {
        this.s = s;
    }

    void all() {
        theTick();
        theFrying();
        takingOut();
        theKinds();
        promise9();
        promise10And11();
        promise12();
        promise13();
        promise14();
        promise15();
    }

    private void theTick() {
        fireTimesRing();
        aTenthLess();
        whereACakeLies();
        aboveSixty();
        byThickAndTwo();
    }

    private void fireTimesRing() {
        s.says("Terms", "A TICK by a FIRE: each CELL's WARMTH is FIRE times RING more");
        for (int fire = 0; fire <= 9; fire++) {
            FirstPancake x = Checks.with("0189/5555");
            s.due("the greatest", x.warm(fire, 1), 9 * fire);
            s.dueAll("FIRE " + fire, Checks.warmthRow(x), 0, fire, 8 * fire, 9 * fire, 5 * fire, 5 * fire, 5 * fire,
                    5 * fire);
        }
    }

    /** RING 1 with FIRE 2 is at 2, 4, 6, 8, 10, and then 1 more with each TICK up to 20. */
    private void aTenthLess() {
        s.says("Terms", ", and a tenth of what it was (rounded down) less");
        int[][] steps = {{4, 8, 8}, {5, 10, 9}, {6, 11, 10}, {14, 19, 18}, {15, 20, 18}, {16, 20, 18}};
        for (int[] step : steps) {
            FirstPancake x = Checks.with("11/11");
            s.due(step[0] + " TICKS", x.warm(2, step[0]), step[1]);
            s.due("one without FIRE", x.warm(0, 1), step[2]);
        }
        FirstPancake nine = Checks.with("99/99");
        s.due("9", nine.warm(1, 1), 9);
        s.due("less than ten loses nothing", nine.warm(0, 200), 9);
        FirstPancake hot = Checks.with("99/99");
        s.due("81", hot.warm(9, 1), 81);
        s.due("of what it was, not of what it becomes", hot.warm(9, 1), 81 + 81 - 8);
        s.due("810 at most", hot.warm(9, 200), 810);
    }

    /** AMOUNT 2 with a SWING lies in two CELLS, THICK 1 each; the others are as warm, and do not count. */
    private void whereACakeLies() {
        s.says("Terms", "; if a CAKE lies there (its THICK in that CELL is above 0)");
        FirstPancake x = Checks.with("77/77", "f9a2nt1u1");
        x.fry(0);
        // By the SWING all are at 63 (3 by 4 is 0), CELL 1 then at 61; behind FIRST 120 and 118, SECOND 171 and 170.
        s.dueAll("THICK", Checks.thickRow(x, 0), 0, 1, 0, 1);
        s.dueAll("WARMTH", Checks.warmthRow(x), 171, 170, 171, 171);
        s.dueAll("58 by 3 and 60 by 3, then 110 by 3 and 111 by 3", Checks.cakeRow(x, 0), 1, 19, 36, 0, 2, 0, 4);
    }

    private void brownDue(int ring, int warmed, String plan, int brown) {
        FirstPancake x = Checks.with(("" + ring + ring + "/" + ring + ring), plan);
        if (warmed > 0) {
            s.due("warm(" + warmed + ", 1)", x.warm(warmed, 1), ring * warmed);
        }
        x.fry(0);
        s.due("BROWN by " + plan + " with RING " + ring + ", warmed by " + warmed, x.cake(0, 1), brown);
    }

    /** AMOUNT 1 takes 2 of WARMTH and is THICK 1: each 3 above 60 brown by 1. */
    private void aboveSixty() {
        s.says("Terms", ", the BROWN of its lower side there is more by what WARMTH then is above 60 (0 at least)");
        brownDue(8, 0, "f7a1t1u1", 0);
        // 54 + 8 - 5 is 57: 3 below, not 1 less.
        brownDue(8, 7, "f1a1t1u1", 0);
        // 30 + 32 - 3 is 59, 22 + 40 - 2 is 60, 14 + 48 - 1 is 61, 6 + 56 is 62.
        brownDue(8, 4, "f4a1t1u1", 0);
        brownDue(8, 3, "f5a1t1u1", 0);
        brownDue(8, 2, "f6a1t1u1", 0);
        brownDue(8, 1, "f7a1t1u1", 0);
        // 63, 64, 54 + 16 - 5 is 65, 46 + 24 - 4 is 66.
        brownDue(9, 0, "f7a1t1u1", 1);
        brownDue(8, 0, "f8a1t1u1", 1);
        brownDue(8, 7, "f2a1t1u1", 1);
        brownDue(8, 6, "f3a1t1u1", 2);
        // Cold at first: 9, 18, 26, 33, 39, 45, 50, 54, 58, 62 take nothing from what 65 brings.
        brownDue(9, 0, "f1a1t10u1", 0);
        brownDue(9, 0, "f1a1t11u1", 1);
    }

    private void byThickAndTwo() {
        s.says("Terms", ", by THICK and 2, rounded down.");
        // WARMTH 63: 3 by 3, by 4; 64: 4 by 4, by 5; 72: 12 by 11, 12, 13.
        brownDue(9, 0, "f7a1t1u1", 1);
        brownDue(9, 0, "f7a2t1u1", 0);
        brownDue(8, 0, "f8a2t1u1", 1);
        brownDue(8, 0, "f8a3t1u1", 0);
        brownDue(9, 0, "f8a9t1u1", 1);
        brownDue(9, 0, "f8a10t1u1", 1);
        brownDue(9, 0, "f8a11t1u1", 0);
        // WARMTH 81 and 154: 21 by 62 is 0, 94 by 62 is 1.
        brownDue(9, 0, "f9a60t1u1", 0);
        brownDue(9, 0, "f9a60t2u1", 1);
    }

    private void theFrying() {
        theMiddle();
        pouringCools();
        aTickForEachSwing();
        hundredIsFast();
        halfOfWhatIsAboveOne();
        noFurtherThanTheRim();
        allAtOnce();
        whatComesCools();
        bothSides();
    }

    private void theMiddle() {
        s.says("Terms", "FRIED by a PLAN: 1 AMOUNT lies in the middle CELL (ROW: half of how many ROWS, rounded down; "
                + "column likewise): its THICK");
        for (int rows = 2; rows <= 4; rows++) {
            for (int columns = 2; columns <= 4; columns++) {
                String pan = ("/" + "1".repeat(columns)).repeat(rows).substring(1);
                int middle = new int[] {1, 1, 2}[rows - 2] * columns + new int[] {1, 1, 2}[columns - 2];
                FirstPancake x = Checks.with(pan, "f1a60t1u1", "f1a1t1u1");
                x.fry(0);
                x.fry(1);
                for (int c = 0; c < rows * columns; c++) {
                    s.due(pan + ", THICK of 60 in " + c, x.thick(0, c), c == middle ? 60 : 0);
                    s.due(pan + ", THICK of 1 in " + c, x.thick(1, c), c == middle ? 1 : 0);
                }
            }
        }
    }

    /** RING 1: behind the pouring two TICKS by FIRE 1 bring 1 each. */
    private void pouringCools() {
        s.says("Terms", "; WARMTH there is twice AMOUNT less (0 at least).");
        FirstPancake nine = Checks.with("11/11", "f1a5t1u1");
        s.due("9", nine.warm(9, 1), 9);
        nine.fry(0);
        s.dueAll("9 less 10 is 0", Checks.warmthRow(nine), 10, 10, 10, 2);
        FirstPancake ten = Checks.with("11/11", "f1a5t1u1");
        s.due("10", ten.warm(2, 5), 10);
        ten.fry(0);
        s.dueAll("10 less 10 is 0", Checks.warmthRow(ten), 10, 10, 10, 2);
        FirstPancake eleven = Checks.with("11/11", "f1a5t1u1", "f1a60t1u1");
        s.due("11", eleven.warm(2, 6), 11);
        eleven.fry(0);
        s.dueAll("11 less 10 is 1", Checks.warmthRow(eleven), 11, 11, 11, 3);
        eleven.fry(1);
        s.due("3 less 120 is 0", eleven.cell(3, 2), 2);
    }

    /** SWINGS to the east find no CELL there: they are TICKS alone. */
    private void aTickForEachSwing() {
        s.says("Terms", "2 Of each SWING, in order, a TICK goes by FIRE");
        for (int k = 0; k <= 6; k++) {
            FirstPancake x = Checks.with("11/11", "f4a1" + "e".repeat(k) + "t1u1");
            x.fry(0);
            int ticks = k + 2;
            // 4, 8, 12, then 1 of 10 less: 15, 18, 21, 23, 25.
            int due = new int[] {0, 4, 8, 12, 15, 18, 21, 23, 25}[ticks];
            s.due(k + " SWINGS", x.cell(0, 2), due);
        }
        FirstPancake brown = Checks.with("11/11", "f7a4t1u1", "f7a4et1u1", "f7a4eeeeeet1u1");
        // 70 less 8 is 62, then 1 more with each TICK: 66 is the first that browns, by 6.
        int[] means = {0, 0, 4};
        for (int plan = 0; plan < 3; plan++) {
            s.due("70", brown.warm(7, 200), 70);
            brown.fry(plan);
            s.due("the TICKS of SWINGS brown the first side", brown.cake(plan, 1), means[plan]);
        }
        FirstPancake order = Checks.with("111/111/111", "f1a8nwt1u1", "f1a8wnt1u1");
        order.fry(0);
        order.fry(1);
        s.dueAll("n, then w", Checks.thickRow(order, 0), 2, 2, 0, 2, 2, 0, 0, 0, 0);
        s.dueAll("w, then n", Checks.thickRow(order, 1), 2, 2, 0, 2, 2, 0, 0, 0, 0);
        FirstPancake rim = Checks.with("11/11/11", "f1a8nst1u1", "f1a8snt1u1");
        rim.fry(0);
        rim.fry(1);
        s.dueAll("n, then s", Checks.thickRow(rim, 0), 0, 2, 0, 4, 0, 2);
        s.dueAll("s, then n", Checks.thickRow(rim, 1), 0, 2, 0, 4, 0, 2);
    }

    private void hundredIsFast() {
        s.says("Terms", "; then a CELL with THICK above 0 and WARMTH of 100 or more is FAST (for good)");
        // 150 less 52 is 98, 10 more, 9 less; less 62 is 88, 20 more, 8 less; less 60 is 90, 20 more, 9 less.
        fastDue("55/55", 3, 150, "f2a26nt1u1", 0, 13, 0, 13);
        fastDue("55/55", 3, 150, "f4a31nt1u1", 0, 0, 0, 31);
        fastDue("55/55", 3, 150, "f4a30nt1u1", 0, 0, 0, 30);
        // 180 less 72 is 108, then 100, then 92: FAST for good. Less 74 is 106, then 98.
        fastDue("22/22", 9, 180, "f1a36nnt1u1", 0, 0, 0, 36);
        fastDue("22/22", 9, 180, "f1a37nnt1u1", 0, 27, 0, 10);
        // CELL 1 is at 164 with nothing in it, so not FAST; 30 come and leave 104, at the next SWING it is at 96.
        fastDue("02/00", 9, 180, "f1a60nwt1u1", 15, 15, 15, 15);
        // 29 come and leave 106, then it is at 98; 28 leave 108, then it is at 100.
        fastDue("02/00", 9, 180, "f1a58nwt1u1", 14, 15, 14, 15);
        fastDue("02/00", 9, 180, "f1a56nwt1u1", 0, 28, 14, 14);
        // CELL 0 is at 164, then at 150 with nothing in it; 15 come and leave 120, so it is at 110 and FAST.
        fastDue("20/00", 9, 180, "f1a60nwet1u1", 15, 15, 8, 22);
        fastIfThin();
        FirstPancake again = Checks.with("22/22", "f1a36nt1u1", "f1a36nt1u1");
        again.warm(9, 200);
        again.fry(0);
        again.warm(0, 200);
        again.fry(1);
        s.dueAll("of the one CAKE alone", Checks.thickRow(again, 1), 0, 18, 0, 18);
    }

    /**
     * CELL 1 is at 119: with the first SWING at 110, and 1 comes; with the next one at 100, FAST by THICK 1, and 1 comes;
     * with the last one it is at 91, and is still FAST. A TICK later it is at 92 with THICK 1.
     */
    private void fastIfThin() {
        FirstPancake x = Checks.with("02/00", "f1a3nnst1u1", "f1a3ennst1u1");
        x.warm(9, 200);
        s.due("without FIRE", x.warm(0, 4), 119);
        x.image();
        x.fry(0);
        s.dueAll("THICK 1 is above 0", Checks.thickRow(x, 0), 0, 2, 0, 1);
        x.restore();
        x.fry(1);
        s.dueAll("a TICK later it is not warm enough", Checks.thickRow(x, 0), 0, 1, 0, 2);
    }

    private void fastDue(String pan, int fire, int warmth, String plan, int... thick) {
        FirstPancake x = Checks.with(pan, plan);
        s.due(pan + " is warm", x.warm(fire, 200), warmth);
        x.fry(0);
        s.dueAll("THICK by " + plan, Checks.thickRow(x, 0), thick);
    }

    private void halfOfWhatIsAboveOne() {
        s.says("Terms", "; then from each CELL that is not FAST half of what THICK is above 1 (rounded up)");
        for (int amount = 1; amount <= 60; amount++) {
            FirstPancake x = Checks.with("11/11", "f1a" + amount + "nt1u1");
            x.fry(0);
            // Of 1 nothing is above 1; of 2 half of 1, of 3 half of 2, of 4 half of 3, and so on.
            int goes = (int) Math.ceil((amount - 1) / 2.0);
            s.dueAll("AMOUNT " + amount, Checks.thickRow(x, 0), 0, goes, 0, amount - goes);
        }
    }

    /** From the CELL at the rim nothing goes: not beyond, and not to the far end of a ROW beside it. */
    private void noFurtherThanTheRim() {
        s.says("Terms", " goes a CELL up, right, down, left (n, e, s, w), if there is one");
        String pan = "111/111/111";
        ranDue(pan, "n", 0, 5, 0, 0, 5, 0, 0, 0, 0);
        ranDue(pan, "e", 0, 0, 0, 0, 5, 5, 0, 0, 0);
        ranDue(pan, "s", 0, 0, 0, 0, 5, 0, 0, 5, 0);
        ranDue(pan, "w", 0, 0, 0, 5, 5, 0, 0, 0, 0);
        ranDue(pan, "nn", 0, 7, 0, 0, 3, 0, 0, 0, 0);
        ranDue(pan, "ee", 0, 0, 0, 0, 3, 7, 0, 0, 0);
        ranDue(pan, "ss", 0, 0, 0, 0, 3, 0, 0, 7, 0);
        ranDue(pan, "ww", 0, 0, 0, 7, 3, 0, 0, 0, 0);
        ranDue("11/11", "e", 0, 0, 0, 10);
        ranDue("11/11", "s", 0, 0, 0, 10);
        ranDue("11/11", "ww", 0, 0, 7, 3);
        ranDue("11/11", "nn", 0, 7, 0, 3);
        ranDue("11/11/11", "e", 0, 0, 0, 10, 0, 0);
        ranDue("11/11/11", "ww", 0, 0, 7, 3, 0, 0);
        ranDue("1111/1111", "s", 0, 0, 0, 0, 0, 0, 10, 0);
        ranDue("1111/1111", "ee", 0, 0, 0, 0, 0, 0, 3, 7);
    }

    private void ranDue(String pan, String swings, int... thick) {
        FirstPancake x = Checks.with(pan, "f1a10" + swings + "t1u1");
        x.fry(0);
        s.dueAll("THICK on " + pan + " by " + swings, Checks.thickRow(x, 0), thick);
    }

    private void allAtOnce() {
        s.says("Terms", ": from all at once, by what they had");
        // Four ROWS: 4 and 4; 2, 4, 2; then back: 1 of 2, 2 of 4, 1 of 2 go down.
        rowsDue("n", 0, 4, 4, 0);
        rowsDue("nn", 2, 4, 2, 0);
        rowsDue("nns", 1, 3, 3, 1);
        columnsDue("w", 0, 4, 4, 0);
        columnsDue("ww", 2, 4, 2, 0);
        columnsDue("wwe", 1, 3, 3, 1);
        // From each of the four CELLS: 15 in each, of which 7 go.
        FirstPancake x = Checks.with("11/11", "f1a60nwet1u1", "f1a60nwst1u1", "f1a60nwwt1u1", "f1a60nwnt1u1");
        int[][] thick = {{8, 22, 8, 22}, {8, 8, 22, 22}, {22, 8, 22, 8}, {22, 22, 8, 8}};
        for (int plan = 0; plan < 4; plan++) {
            x.fry(plan);
            s.dueAll("by the SWING behind n and w, " + plan, Checks.thickRow(x, plan), thick[plan]);
        }
    }

    private void rowsDue(String swings, int... thick) {
        FirstPancake x = Checks.with("11/11/11/11", "f1a8" + swings + "t1u1");
        x.fry(0);
        for (int row = 0; row < 4; row++) {
            s.due("ROW " + row + " by " + swings, x.thick(0, 2 * row + 1), thick[row]);
        }
    }

    private void columnsDue(String swings, int... thick) {
        FirstPancake x = Checks.with("1111/1111", "f1a8" + swings + "t1u1");
        x.fry(0);
        for (int column = 0; column < 4; column++) {
            s.due("column " + column + " by " + swings, x.thick(0, 4 + column), thick[column]);
        }
    }

    /** CELL 1 has RING 1, so by FIRE 1 it has 1 more than it was warmed to when 3 come, and 2 more at the end. */
    private void whatComesCools() {
        s.says("Terms", "; what comes to a CELL takes twice as much from its WARMTH (0 at least).");
        int[][] steps = {{4, 2}, {5, 2}, {6, 3}, {7, 4}};
        for (int[] step : steps) {
            FirstPancake x = Checks.with("01/00", "f1a6nt1u1");
            s.due("warmed", x.warm(step[0], 1), step[0]);
            x.fry(0);
            s.dueAll("THICK", Checks.thickRow(x, 0), 0, 3, 0, 3);
            s.due((step[0] + 1) + " less 6", x.cell(1, 2), step[1]);
        }
        FirstPancake none = Checks.with("01/00", "f1a1nt1u1");
        none.warm(5, 1);
        none.fry(0);
        s.due("nothing comes, nothing is taken", none.cell(1, 2), 8);
        FirstPancake left = Checks.with("00/01", "f1a6nt1u1");
        left.warm(9, 2);
        left.fry(0);
        s.due("where it goes from, nothing is taken", left.cell(3, 2), 9);
    }

    /** RING 5 with FIRE 3 is at 150; less 2 it is at 149 and again at 150: 29 the first time, then 30 each. */
    private void bothSides() {
        s.says("Terms", "3 FIRST TICKS. 4 It is turned: SECOND TICKS, for the other side.");
        int[][] steps = {{1, 1}, {1, 2}, {2, 1}, {1, 60}, {60, 1}, {59, 59}, {60, 60}};
        for (int[] step : steps) {
            FirstPancake x = Checks.with("55/55", "f3a1t" + step[0] + "u" + step[1]);
            s.due("150", x.warm(3, 200), 150);
            x.fry(0);
            s.due("MEAN by t" + step[0], x.cake(0, 1), 30 * step[0] - 1);
            s.due("OTHER by u" + step[1], x.cake(0, 2), 30 * step[1]);
        }
        FirstPancake cold = Checks.with("11/11", "f1a1t1u1", "f1a1t1u2", "f1a1t2u2");
        cold.fry(0);
        s.due("two TICKS", cold.cell(0, 2), 2);
        cold.fry(1);
        s.due("three more", cold.cell(0, 2), 5);
        cold.fry(2);
        s.due("four more", cold.cell(0, 2), 9);
    }

    private void takingOut() {
        whatSticks();
        bitsMore();
        fatLess();
    }

    /** By AMOUNT 2 and a SWING CELLS 1 and 3 are covered, THICK 1 each; by AMOUNT 1 CELL 3 alone. */
    private void whatSticks() {
        s.says("Terms", "5 Out: a CELL with THICK above 0 is STUCK, if it is STICKY and FAT is not above its BITS");
        String[] pans = {"11/11", "1s1/1s1", "11s/11", "11/11s", "1s1s/1s1s"};
        int[] byTwo = {0, 0, 1, 1, 2};
        int[] byOne = {0, 0, 0, 1, 1};
        for (int i = 0; i < pans.length; i++) {
            FirstPancake x = Checks.with(pans[i], "f1a2nt1u1", "f1a1nt1u1");
            x.image();
            x.fry(0);
            s.due(pans[i] + ", THICK 1 in two", x.cake(0, 5), byTwo[i]);
            x.restore();
            x.fry(1);
            s.due(pans[i] + ", THICK 1 and 0", x.cake(0, 5), byOne[i]);
        }
        FirstPancake x = Checks.with("11/11s", "f1a1t1u1");
        for (int bits = 0; bits <= 9; bits++) {
            x.fat(0);
            s.due("BITS", x.cell(3, 3), bits);
            x.image();
            for (int fat = 0; fat <= 9; fat++) {
                x.fat(fat);
                x.fry(0);
                s.due("FAT " + fat + ", BITS " + bits, x.cake(x.count(2) - 1, 5), fat <= bits ? 1 : 0);
                x.restore();
            }
            x.fry(0);
        }
    }

    private void bitsMore() {
        s.says("Terms", "; each such one has 1 of BITS more (9 at most)");
        FirstPancake x = Checks.with("1s1s/1s1s", "f1a2nt1u1", "f1a1t1u1");
        x.fry(1);
        s.due("CELL 3", x.cell(3, 3), 1);
        for (int i = 1; i <= 11; i++) {
            x.fry(0);
            s.due("CELL 0", x.cell(0, 3), 0);
            s.due("CELL 1 behind " + i, x.cell(1, 3), Math.min(9, i));
            s.due("CELL 3 behind " + i, x.cell(3, 3), Math.min(9, i + 1));
            s.due("STUCK, with 9 BITS, too", x.cake(i, 5), 2);
        }
        x.scrape();
        x.fat(9);
        x.fry(0);
        s.due("what is not STUCK has none more", x.count(5), 0);
    }

    private void fatLess() {
        s.says("Terms", "; then FAT is 1 less (0 at least).");
        FirstPancake x = Checks.with("11s/11s", "f1a2nt1u1");
        x.fat(9);
        for (int left = 8; left >= -2; left--) {
            x.fry(0);
            s.due("FAT", x.count(4), Math.max(0, left));
        }
        FirstPancake last = Checks.with("11s/11s", "f1a2nt1u1");
        last.fat(1);
        last.fry(0);
        s.due("FAT 1 is enough for both CELLS, for it is less behind them", last.cake(0, 5), 0);
        last.fry(0);
        s.due("FAT 0 is not", last.cake(1, 5), 2);
    }

    private void theKinds() {
        means();
        edges();
        torn();
        lopsided();
        pale();
        burnt();
        dark();
        alsoOfKind();
        worths();
    }

    /**
     * Two covered CELLS, THICK 1 each, of which one has a RING of 9. By FIRE 1 it is at 62 with the tenth TICK, then
     * at 65, 68, 71, 73, 75, 77, 79, 81, 82, which brown by 1, 2, 3, 4, 5, 5, 6, 7, 7; the SWING's TICK is the first.
     */
    private void means() {
        s.says("Terms", "Of a CAKE: MEAN, OTHER: BROWN of its first (other) side of all CELLS with THICK above 0, by "
                + "how many they are, rounded down.");
        int[] together = {0, 1, 3, 6, 10, 15, 20, 26, 33, 40};
        for (int more = 0; more <= 9; more++) {
            FirstPancake x = Checks.with("00/09", "f1a2nt" + (9 + more) + "u1");
            x.fry(0);
            s.dueAll("THICK", Checks.thickRow(x, 0), 0, 1, 0, 1);
            s.due(together[more] + " by 2", x.cake(0, 1), together[more] / 2);
        }
        FirstPancake other = Checks.with("00/09", "f1a2nt9u1", "f1a2nt9u2", "f1a2nt9u3", "f1a2nt9u4");
        int[] others = {0, 1, 3, 5};
        for (int plan = 0; plan < 4; plan++) {
            s.due("MEAN before", other.tried(plan, 1), 0);
            s.due("OTHER", other.tried(plan, 2), others[plan]);
        }
    }

    private void edges() {
        s.says("Terms", "EDGE: the greatest THICK less the least one of these.");
        edgeDue("f1a60t1u1", 0, 1);
        edgeDue("f1a60nt1u1", 0, 2);
        edgeDue("f1a59nt1u1", 1, 2);
        edgeDue("f1a2nt1u1", 0, 2);
        edgeDue("f1a3nt1u1", 1, 2);
        edgeDue("f1a60nnt1u1", 30, 2);
        edgeDue("f1a60nwt1u1", 0, 4);
        // 30 and 30; 15 of each go west; the east takes back 7 of each 15.
        edgeDue("f1a60nwet1u1", 14, 4);
    }

    private void edgeDue(String plan, int edge, int cells) {
        FirstPancake x = Checks.with("11/11", plan);
        x.fry(0);
        s.due("EDGE by " + plan, x.cake(0, 3), edge);
        s.due("CELLS by " + plan, x.cake(0, 4), cells);
    }

    private void torn() {
        s.says("Terms", "KINDS: 5 TORN, if a CELL was STUCK");
        kindDue("11/11", 7, "f7a4t23u1", 0);
        kindDue("1s1s/1s1", 7, "f7a4t23u1", 0);
        kindDue("11/11s", 7, "f7a4t23u1", 5);
        // Two are covered, and one of them, or both, STUCK; LOPSIDED, too.
        kindDue("11s/11", 0, "f1a20nnt1u1", 5);
        kindDue("11s/11s", 0, "f1a20nnt1u1", 5);
        kindDue("11/11", 0, "f1a20nnt1u1", 4);
        FirstPancake x = Checks.with("11/11s", "f7a4t23u1");
        x.fat(1);
        s.due("70", x.warm(7, 200), 70);
        s.due("with FAT it is RIGHT", x.fry(0), 0);
        s.due("and without", x.fry(0), 5);
    }

    /** Two SWINGS up: half goes, and half of what is left. */
    private void lopsided() {
        s.says("Terms", "; else 4 LOPSIDED, if EDGE is above 9");
        int[][] steps = {{17, 7, 1}, {18, 8, 1}, {19, 9, 1}, {21, 9, 1}, {20, 10, 4}, {22, 10, 4}, {23, 11, 4}};
        for (int[] step : steps) {
            FirstPancake x = Checks.with("11/11", "f1a" + step[0] + "nnt1u1");
            s.due("KIND by EDGE " + step[1], x.fry(0), step[2]);
            s.due("EDGE", x.cake(0, 3), step[1]);
        }
        FirstPancake burnt = Checks.with("11/11", "f9a19nnt60u1", "f9a20nnt60u1");
        s.due("EDGE 9, MEAN above 100", burnt.fry(0), 3);
        burnt.warm(0, 200);
        s.due("EDGE 10, MEAN above 100", burnt.fry(1), 4);
        s.due("MEAN above 100", burnt.cake(1, 1) > 100 ? 1 : 0, 1);
    }

    private void kindDue(String pan, int fire, String plan, int kind) {
        FirstPancake x = Checks.with(pan, plan);
        if (fire > 0) {
            x.warm(fire, 200);
        }
        s.due("KIND by " + plan + " on " + pan, x.fry(0), kind);
    }

    /** RING 1, all at ten times FIRE at first; AMOUNT takes twice as much, which comes back. */
    private void meanDue(int fire, String plan, int mean, int kind) {
        FirstPancake x = Checks.with("11/11", plan);
        s.due("warm", x.warm(fire, 200), 10 * fire);
        s.due("KIND by MEAN " + mean, x.fry(0), kind);
        s.due("MEAN by " + plan, x.cake(0, 1), mean);
    }

    /** AMOUNT 4: 62 at first, 1 more a TICK; from 66 on, up to 70, it browns by 1 a TICK (6 to 10 by 6). */
    private void pale() {
        s.says("Terms", "; else 1 PALE, if MEAN is below 20");
        meanDue(7, "f7a4t1u1", 0, 1);
        meanDue(7, "f7a4t21u1", 18, 1);
        meanDue(7, "f7a4t22u1", 19, 1);
        meanDue(7, "f7a4t23u1", 20, 0);
        meanDue(7, "f7a4t24u1", 21, 0);
        meanDue(7, "f7a4t22u60", 19, 1);
    }

    /**
     * AMOUNT 2 by FIRE 7: 67, 68, 69, 70: by 4 it browns by 1, then by 2 a TICK. AMOUNT 4 by FIRE 8: 73 to 77 by 2
     * each, then by 3.
     */
    private void burnt() {
        s.says("Terms", "; 3 BURNT, if it is above 100");
        meanDue(7, "f7a2t50u1", 99, 2);
        meanDue(8, "f8a4t35u1", 100, 2);
        meanDue(7, "f7a2t51u1", 101, 3);
        meanDue(7, "f7a2t52u1", 103, 3);
        meanDue(7, "f7a2t50u60", 99, 2);
    }

    /** As PALE, with six SWINGS that move nothing for six TICKS more. */
    private void dark() {
        s.says("Terms", "; 2 DARK, if it is above 60; else 0 CAKE (it is RIGHT).");
        meanDue(7, "f7a4eeeeeet56u1", 59, 0);
        meanDue(7, "f7a4eeeeeet57u1", 60, 0);
        meanDue(7, "f7a4eeeeeet58u1", 61, 2);
        meanDue(7, "f7a4eeeeeet59u1", 62, 2);
        meanDue(7, "f7a4eeeeeet57u60", 60, 0);
    }

    /** CAKES of all KINDS, the number of each as that of its KIND. */
    private static FirstPancake oneOfEach() {
        FirstPancake x = Checks.with("11/11s", "f7a4t23u1", "f7a4t1u1", "f7a2t50u1", "f7a2t51u1", "f1a20nnt1u1");
        int[] plans = {0, 1, 2, 3, 4, 4};
        for (int i = 0; i < 6; i++) {
            x.warm(7, 200);
            if (i == 4) {
                x.warm(0, 200);
            }
            x.fat(i == 5 ? 0 : 9);
            x.fry(plans[i]);
        }
        return x;
    }

    private void alsoOfKind() {
        s.says("Terms", "All are CAKES; a BURNT is DARK, a TORN is LOPSIDED, too.");
        FirstPancake x = oneOfEach();
        int[][] is = {{1, 0, 0, 0, 0, 0}, {1, 1, 0, 0, 0, 0}, {1, 0, 1, 0, 0, 0}, {1, 0, 1, 1, 0, 0},
            {1, 0, 0, 0, 1, 0}, {1, 0, 0, 0, 1, 1}};
        for (int cake = 0; cake < 6; cake++) {
            s.due("KIND of " + cake, x.cake(cake, 0), cake);
            for (int kind = 0; kind < 6; kind++) {
                s.due("as(" + cake + ", " + kind + ")", x.as(cake, kind), is[cake][kind] == 1 ? cake : Checks.NONE);
            }
        }
    }

    private void worths() {
        s.says("Terms", "WORTH: of a CAKE 10, a PALE 4, a DARK 6, a BURNT 5 less than that, a LOPSIDED 5, a TORN 3 less "
                + "than that.");
        FirstPancake x = oneOfEach();
        int[] worths = {10, 4, 6, 1, 5, 2};
        for (int cake = 0; cake < 6; cake++) {
            s.due("WORTH of KIND " + x.cake(cake, 0), x.cake(cake, 6), worths[cake]);
        }
    }

    private void promise9() {
        s.says("Promise 9", "So many TICKS go by a FIRE, without a CAKE: the greatest WARMTH.");
        String[] pans = {"91/11", "19/11", "11/91", "11/19", "00/00"};
        int[] most = {27, 27, 27, 27, 0};
        for (int i = 0; i < pans.length; i++) {
            FirstPancake x = Checks.with(pans[i]);
            s.due("greatest of " + pans[i], x.warm(3, 1), most[i]);
            s.due("no CAKE", x.count(2), 0);
        }
        FirstPancake once = Checks.with("19/47");
        FirstPancake bySteps = Checks.with("19/47");
        for (int ticks : new int[] {1, 2, 3, 4, 20, 199, 200}) {
            int last = 0;
            for (int i = 0; i < ticks; i++) {
                last = bySteps.warm(5, 1);
            }
            s.due(ticks + " TICKS", once.warm(5, ticks), last);
            s.dueAll(ticks + " TICKS", Checks.warmthRow(once), Checks.warmthRow(bySteps));
            once.warm(0, 1);
            bySteps.warm(0, 1);
        }
        FirstPancake covered = Checks.with("55/55", "f3a1t1u1");
        covered.warm(3, 200);
        covered.fry(0);
        covered.warm(9, 200);
        s.due("a CAKE that is out browns no more", covered.cake(0, 2), 30);
        s.says("Promise 9", " STATE;");
        FirstPancake none = new FirstPancake();
        s.refused("without a PAN", none, none.digest(), none.warm(1, 1), Checks.STATE);
        s.refused("STATE is told ahead of OUTSIDE", none, none.digest(), none.warm(10, 0), Checks.STATE);
        s.says("Promise 9", " OUTSIDE: fire (0 to 9), ticks (1 to 200).");
        FirstPancake x = Checks.with("12/34");
        for (int wrong : new int[] {Integer.MIN_VALUE, -2, -1, 10, 11, Integer.MAX_VALUE}) {
            s.refused("fire " + wrong, x, x.digest(), x.warm(wrong, 1), Checks.OUTSIDE);
        }
        for (int wrong : new int[] {Integer.MIN_VALUE, -1, 0, 201, 202, Integer.MAX_VALUE}) {
            s.refused("ticks " + wrong, x, x.digest(), x.warm(1, wrong), Checks.OUTSIDE);
        }
        s.due("fire 0", x.warm(0, 1), 0);
        s.due("fire 1", x.warm(1, 1), 4);
        s.due("fire 8", x.warm(8, 1), 36);
        s.due("fire 9", x.warm(9, 1), 36 + 36 - 3);
        s.due("ticks 199", x.warm(9, 199), 360);
        s.due("ticks 200", x.warm(9, 200), 360);
    }

    private void promise10And11() {
        s.says("Promise 10", "FAT becomes v: what it was.");
        FirstPancake x = Checks.with("1s1s/1s1s", "f1a2nt1u1");
        int was = 0;
        for (int v : new int[] {0, 1, 0, 9, 8, 9, 9, 5}) {
            s.due("fat(" + v + ")", x.fat(v), was);
            s.due("FAT", x.count(4), v);
            was = v;
        }
        s.says("Promise 10", " STATE; OUTSIDE.");
        for (int wrong : new int[] {Integer.MIN_VALUE, -2, -1, 10, 11, Integer.MAX_VALUE}) {
            s.refused("fat(" + wrong + ")", x, x.digest(), x.fat(wrong), Checks.OUTSIDE);
        }
        FirstPancake none = new FirstPancake();
        s.refused("without a PAN", none, none.digest(), none.fat(0), Checks.STATE);
        s.refused("STATE is told ahead of OUTSIDE", none, none.digest(), none.fat(10), Checks.STATE);
        s.says("Promise 11", "All BITS are gone: how many there were.");
        x.fat(0);
        for (int fries = 0; fries <= 11; fries++) {
            for (int i = 0; i < fries && x.count(2) < 24; i++) {
                x.fry(0);
            }
            int bits = x.count(5);
            s.due("scrape()", x.scrape(), bits);
            s.due("gone", x.count(5), 0);
            s.due("scrape() again", x.scrape(), 0);
        }
        scrapeAll();
        s.says("Promise 11", " STATE.");
        s.refused("without a PAN", none, none.digest(), none.scrape(), Checks.STATE);
    }

    /** From the middle of two ROWS of two 4 run into all CELLS by n and w: each has 9 BITS at last. */
    private void scrapeAll() {
        FirstPancake x = Checks.with("0s0s/0s0s", "f1a4nwt1u1");
        for (int i = 1; i <= 10; i++) {
            x.fry(0);
            x.image();
            s.due("behind " + i, x.scrape(), 4 * Math.min(9, i));
            for (int c = 0; c < 4; c++) {
                s.due("CELL " + c, x.cell(c, 3), 0);
            }
            x.restore();
        }
        x.fat(3);
        x.scrape();
        s.due("FAT stays", x.count(4), 3);
        s.due("CAKES stay", x.count(2), 10);
    }

    private void promise12() {
        s.says("Promise 12", "FRIED by a PLAN: the KIND of the CAKE, which is the next one in number.");
        FirstPancake x = Checks.with("11/11", "f1a1t1u1", "f1a20nnt1u1");
        for (int i = 0; i < 24; i++) {
            s.due("no CAKE yet", x.cake(i, 0), Checks.UNKNOWN);
            int kind = i % 3 == 0 ? 4 : 1;
            s.due("fry " + i, x.fry(i % 3 == 0 ? 1 : 0), kind);
            s.due("CAKES", x.count(2), i + 1);
            s.due("its KIND", x.cake(i, 0), kind);
        }
        s.says("Promise 12", "; FULL: there are 24 CAKES.");
        s.refused("the 25th", x, x.digest(), x.fry(0), Checks.FULL);
        FirstPancake y = Checks.with("11/11", "f1a1t1u1");
        for (int i = 0; i < 23; i++) {
            y.fry(0);
        }
        y.image();
        s.due("the 24th", y.fry(0), 1);
        s.refused("the 25th", y, y.digest(), y.fry(0), Checks.FULL);
        s.due("restored", y.restore(), 23);
        s.due("the 24th once more", y.fry(0), 1);
        s.due("FULL", y.fry(0), Checks.FULL);
        Checks.pan(y, "11/11");
        s.due("another PAN has room", y.fry(0), 1);
        s.says("Promise 12", " UNKNOWN; STATE");
        for (int plan : new int[] {Integer.MIN_VALUE, -1, 2, 6, Integer.MAX_VALUE}) {
            s.refused("UNKNOWN is told ahead of FULL", x, x.digest(), x.fry(plan), Checks.UNKNOWN);
        }
        FirstPancake noPan = new FirstPancake();
        s.refused("no PLAN, no PAN", noPan, noPan.digest(), noPan.fry(0), Checks.UNKNOWN);
        Checks.plan(noPan, "f1a1t1u1");
        s.refused("no PAN", noPan, noPan.digest(), noPan.fry(0), Checks.STATE);
        s.refused("UNKNOWN is told ahead of STATE", noPan, noPan.digest(), noPan.fry(1), Checks.UNKNOWN);
        Checks.pan(noPan, "11/11");
        s.due("with both", noPan.fry(0), 1);
    }

    private void promise13() {
        s.says("Promise 13", "Of a CAKE: what = 0 KIND, 1 MEAN, 2 OTHER, 3 EDGE, 4 how many CELLS with THICK above 0, "
                + "5 how many were STUCK, 6 WORTH.");
        FirstPancake x = Checks.with("55s/55s", "f3a3nt2u3", "f3a1t1u2");
        s.due("150", x.warm(3, 200), 150);
        x.fry(0);
        x.fat(2);
        s.due("150", x.warm(3, 200), 150);
        x.fry(1);
        // FAST at once (144, then 145): THICK 3 browns by 85, 86, 87 by 5; then by 88, 89, 90 by 5.
        s.dueAll("TORN", Checks.cakeRow(x, 0), 5, 51, 52, 0, 1, 1, 2);
        s.dueAll("RIGHT", Checks.cakeRow(x, 1), 0, 29, 60, 0, 1, 0, 10);
        s.says("Promise 13", " UNKNOWN; OUTSIDE.");
        numbersUnknown(x);
        for (int what : new int[] {Integer.MIN_VALUE, -1, 7, 8, Integer.MAX_VALUE}) {
            s.refused("cake(1, " + what + ")", x, x.digest(), x.cake(1, what), Checks.OUTSIDE);
        }
        FirstPancake full = Checks.with("11/11", "f1a1t1u1");
        for (int i = 0; i < 24; i++) {
            s.due("before", full.cake(i, 0), Checks.UNKNOWN);
            full.fry(0);
            s.due("the last one", full.cake(i, 0), 1);
            s.due("the next one", full.cake(i + 1, 0), Checks.UNKNOWN);
        }
        s.due("without a PAN", new FirstPancake().cake(0, 7), Checks.UNKNOWN);
    }

    private void numbersUnknown(FirstPancake x) {
        for (int cake : new int[] {Integer.MIN_VALUE, -1, 2, 3, 23, 24, Integer.MAX_VALUE}) {
            s.refused("cake(" + cake + ", 0)", x, x.digest(), x.cake(cake, 0), Checks.UNKNOWN);
            s.refused("cake(" + cake + ", 7)", x, x.digest(), x.cake(cake, 7), Checks.UNKNOWN);
        }
    }

    private void promise14() {
        s.says("Promise 14", "A CAKE taken as a KIND: its own number (not that of the KIND)");
        FirstPancake x = Checks.with("11/11", "f7a2t51u1");
        for (int i = 0; i < 7; i++) {
            x.warm(7, 200);
            s.due("BURNT", x.fry(0), 3);
            s.due("as CAKE", x.as(i, 0), i);
            s.due("as DARK", x.as(i, 2), i);
            s.due("as BURNT", x.as(i, 3), i);
        }
        s.says("Promise 14", "; NONE: it is none such (the cast fails).");
        for (int kind : new int[] {1, 4, 5}) {
            s.due("as(6, " + kind + ")", x.as(6, kind), Checks.NONE);
            s.due("as(0, " + kind + ")", x.as(0, kind), Checks.NONE);
        }
        s.says("Promise 14", " UNKNOWN; OUTSIDE.");
        for (int cake : new int[] {Integer.MIN_VALUE, -1, 7, 8, 24, Integer.MAX_VALUE}) {
            s.refused("as(" + cake + ", 0)", x, x.digest(), x.as(cake, 0), Checks.UNKNOWN);
            s.refused("as(" + cake + ", 6)", x, x.digest(), x.as(cake, 6), Checks.UNKNOWN);
        }
        for (int kind : new int[] {Integer.MIN_VALUE, -1, 6, 7, Integer.MAX_VALUE}) {
            s.refused("as(6, " + kind + ")", x, x.digest(), x.as(6, kind), Checks.OUTSIDE);
        }
        s.due("without a PAN", new FirstPancake().as(0, 0), Checks.UNKNOWN);
    }

    private void promise15() {
        s.says("Promise 15", "THICK of a CAKE in a CELL.");
        FirstPancake x = Checks.with("1111/1111/1111/1111", "f1a60t1u1", "f1a1t1u1", "f1a2eesst1u1");
        for (int plan = 0; plan < 3; plan++) {
            x.fry(plan);
        }
        s.due("60", x.thick(0, 10), 60);
        s.due("1", x.thick(1, 10), 1);
        s.due("0 in the first", x.thick(0, 0), 0);
        s.due("0 in the last", x.thick(0, 15), 0);
        s.due("1 of 2 went", x.thick(2, 11), 1);
        s.says("Promise 15", " UNKNOWN: cake, cell.");
        for (int cake : new int[] {Integer.MIN_VALUE, -1, 3, 24, Integer.MAX_VALUE}) {
            s.refused("thick(" + cake + ", 0)", x, x.digest(), x.thick(cake, 0), Checks.UNKNOWN);
        }
        for (int cell : new int[] {Integer.MIN_VALUE, -1, 16, 17, Integer.MAX_VALUE}) {
            s.refused("thick(2, " + cell + ")", x, x.digest(), x.thick(2, cell), Checks.UNKNOWN);
        }
        FirstPancake small = Checks.with("11/11", "f1a1t1u1");
        s.due("no CAKE", small.thick(0, 0), Checks.UNKNOWN);
        small.fry(0);
        s.due("the last CELL", small.thick(0, 3), 1);
        s.due("one more", small.thick(0, 4), Checks.UNKNOWN);
        s.due("without a PAN", new FirstPancake().thick(0, 0), Checks.UNKNOWN);
    }
}
