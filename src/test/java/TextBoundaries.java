/** The boundary cases of texts: THE PAN, PLANS, THE PAGE, and what is told of them (promises 1 to 8). */
final class TextBoundaries {
    private final Sentences s;

    TextBoundaries(Sentences s) {
        this.s = s;
    }

    void all() {
        thePan();
        thePlans();
        promise1();
        promise2();
        promise3();
        promise4();
        promise5();
        promise6();
        promise7();
        promise8();
    }

    private static FirstPancake paged(String text) {
        FirstPancake x = new FirstPancake();
        Checks.tell(x, text);
        return x;
    }

    /** The text is a PAN of so many CELLS. */
    private void isPan(String text, int cells) {
        s.due("fault(0) of " + text, paged(text).fault(0), text.length());
        s.due("pan() of " + text, paged(text).pan(), cells);
    }

    /** The text is no PAN, and the first letter that none has stands there (its length: there is none such). */
    private void isNoPan(String text, int place) {
        FirstPancake x = paged(text);
        s.due("fault(0) of " + text, x.fault(0), place);
        s.refused("pan() of " + text, x, x.digest(), x.pan(), Checks.STATE);
    }

    private void isPlan(String text, int what, int told) {
        FirstPancake x = paged(text);
        s.due("fault(1) of " + text, x.fault(1), text.length());
        s.due("plan() of " + text, x.plan(), 0);
        s.due("planTold(0, " + what + ") of " + text, x.planTold(0, what), told);
    }

    private void isNoPlan(String text, int place) {
        FirstPancake x = paged(text);
        s.due("fault(1) of " + text, x.fault(1), place);
        s.refused("plan() of " + text, x, x.digest(), x.plan(), Checks.STATE);
    }

    private static String rows(int rows, int columns) {
        return ("/" + "7".repeat(columns)).repeat(rows).substring(1);
    }

    private void thePan() {
        howManyRows();
        howManyColumns();
        allAsMany();
        rings();
        sticky();
        numberedRowByRow();
        zeroAtFirst();
    }

    private void howManyRows() {
        s.says("What it is", "THE PAN is a text: two to four ROWS with \"/\" between");
        for (int columns = 2; columns <= 4; columns++) {
            isNoPan("", 0);
            isNoPan(rows(1, columns), columns);
            for (int rows = 2; rows <= 4; rows++) {
                isPan(rows(rows, columns), rows * columns);
                boolean more = rows < 4;
                int length = rows(rows, columns).length();
                isNoPan(rows(rows, columns) + "/", more ? length + 1 : length);
            }
            isNoPan(rows(5, columns), rows(4, columns).length());
        }
        isNoPan("12.34", 2);
        isNoPan("12034", 4);
        isNoPan("12//34", 3);
    }

    private void howManyColumns() {
        s.says("What it is", ", each of two to four CELLS");
        for (int rows = 2; rows <= 4; rows++) {
            isNoPan(rows(rows, 1), 1);
            for (int columns = 2; columns <= 4; columns++) {
                isPan(rows(rows, columns), rows * columns);
            }
            isNoPan(rows(rows, 5), 4);
        }
        isNoPan("/12", 0);
        isNoPan("1s/2s", 2);
        isNoPan("1s2s3s4s5s/1", 8);
    }

    private void allAsMany() {
        s.says("What it is", "(all as many)");
        isNoPan("123/12", 6);
        isPan("123/123", 6);
        isNoPan("123/1234", 7);
        isNoPan("12/1/12", 4);
        isNoPan("12/123/12", 5);
        isNoPan("12/12/1", 7);
        isPan("12/12/12", 6);
        isNoPan("12/12/123", 8);
        isNoPan("1234/1234/1234/123", 18);
        isPan("1234/1234/1234/1234", 16);
        isNoPan("1234/1234/1234/12341", 19);
    }

    private void rings() {
        s.says("What it is", ": a digit, its RING");
        for (char letter = 1; letter <= 126; letter++) {
            String text = "1" + letter + "/34";
            if (letter >= '0' && letter <= '9') {
                FirstPancake x = paged(text);
                s.due("pan() of " + text, x.pan(), 4);
                s.due("RING of " + letter, x.cell(1, 0), letter - '0');
            } else {
                isNoPan(text, letter == 's' ? 2 : 1);
            }
        }
    }

    private void sticky() {
        s.says("What it is", ", then perhaps \"s\" (STICKY).");
        FirstPancake x = paged("12s/3s4");
        s.due("pan", x.pan(), 4);
        for (int c = 0; c < 4; c++) {
            s.due("STICKY of " + c, x.cell(c, 1), c == 1 || c == 2 ? 1 : 0);
        }
        isNoPan("s12/34", 0);
        isNoPan("1ss2/34", 2);
        isNoPan("12/s34", 3);
        isNoPan("12s/ss", 4);
        isNoPan("12/34ss", 6);
        isNoPan("1r", 1);
        isNoPan("1t", 1);
        isNoPan("1S", 1);
        isPan("1s2s3s4s/1s2s3s4s/1s2s3s4s/1s2s3s4s", 16);
        isNoPan("1s2s3s4s/1s2s3s4s/1s2s3s4s/1s2s3s4s/", 35);
        isNoPan("1s2s3s4s/1s2s3s4s/1s2s3s4s/1s2s3s4ss", 35);
    }

    private void numberedRowByRow() {
        s.says("Terms", "CELLS are numbered row by row.");
        FirstPancake wide = paged("0123/4567");
        FirstPancake high = paged("01/23/45/67");
        wide.pan();
        high.pan();
        for (int c = 0; c < 8; c++) {
            s.due("two ROWS of four: " + c, wide.cell(c, 0), c);
            s.due("four ROWS of two: " + c, high.cell(c, 0), c);
        }
    }

    private void zeroAtFirst() {
        s.says("Terms", "Each has WARMTH and BITS (0 to 9), 0 at first");
        FirstPancake x = Checks.with("9s9s9s9s/9s9s9s9s/9s9s9s9s/9s9s9s9s", "f9a60neswt9u9");
        for (int c = 0; c < 16; c++) {
            s.due("WARMTH of " + c, x.cell(c, 2), 0);
            s.due("BITS of " + c, x.cell(c, 3), 0);
        }
        for (int i = 1; i <= 11; i++) {
            x.fry(0);
            s.due("BITS of the middle behind " + i, x.cell(10, 3), Math.min(i, 9));
        }
        s.says("Terms", "; THE PAN has FAT (0 to 9), 0 at first.");
        FirstPancake y = Checks.with("11/11");
        s.due("FAT", y.count(4), 0);
        s.due("fat(9)", y.fat(9), 0);
        s.due("fat(10)", y.fat(10), Checks.OUTSIDE);
        s.due("fat(0)", y.fat(0), 9);
        s.due("fat(-1)", y.fat(-1), Checks.OUTSIDE);
        s.due("FAT", y.count(4), 0);
    }

    private void thePlans() {
        sixPlans();
        fires();
        amounts();
        swings();
        sides();
        noZeroAhead();
    }

    private void sixPlans() {
        s.says("Terms", "PLANS (6 at most, numbered) are texts");
        FirstPancake x = new FirstPancake();
        for (int i = 0; i < 6; i++) {
            s.due("PLAN " + i, Checks.plan(x, "f" + (9 - i) + "a1t1u1"), i);
        }
        Checks.tell(x, "f1a1t1u1");
        s.refused("a seventh", x, x.digest(), x.plan(), Checks.FULL);
        for (int i = 0; i < 6; i++) {
            s.due("FIRE of " + i, x.planTold(i, 0), 9 - i);
        }
    }

    private void fires() {
        s.says("Terms", ": \"f\" and FIRE (1 to 9)");
        isNoPlan("a1t1u1", 0);
        isNoPlan("1a1t1u1", 0);
        isNoPlan("fa1t1u1", 1);
        isNoPlan("f0a1t1u1", 1);
        for (int fire = 1; fire <= 9; fire++) {
            isPlan("f" + fire + "a1t1u1", 0, fire);
        }
        isNoPlan("f10a1t1u1", 2);
        isNoPlan("f99a1t1u1", 2);
        isNoPlan("ff1a1t1u1", 1);
    }

    /** A number of 1 to 60 behind the text ahead, told by planTold() for what. */
    private void upToSixty(String ahead, String behind, int what) {
        isNoPlan(ahead + behind, ahead.length());
        isNoPlan(ahead + 0 + behind, ahead.length());
        for (int number = 1; number <= 60; number++) {
            isPlan(ahead + number + behind, what, number);
        }
        for (int number = 61; number <= 99; number++) {
            isNoPlan(ahead + number + behind, ahead.length() + 1);
        }
        for (int number = 100; number <= 999; number++) {
            isNoPlan(ahead + number + behind, ahead.length() + (number < 610 ? 2 : 1));
        }
        isNoPlan(ahead + Integer.MAX_VALUE + behind, ahead.length() + 2);
        isNoPlan(ahead + "4294967297" + behind, ahead.length() + 2);
    }

    private void amounts() {
        s.says("Terms", ", \"a\" and AMOUNT (1 to 60)");
        upToSixty("f1a", "t1u1", 1);
        upToSixty("f9a", "net60u60", 1);
        isNoPlan("f1t1u1", 2);
        isNoPlan("f1a1a1t1u1", 4);
    }

    private void swings() {
        s.says("Terms", ", up to six SWINGS (\"n\", \"e\", \"s\", \"w\")");
        for (int k = 0; k <= 6; k++) {
            isPlan("f1a1" + "w".repeat(k) + "t1u1", 4, k);
            isPlan("f9a60" + "s".repeat(k) + "t60u60", 4, k);
        }
        isNoPlan("f1a1nnnnnnnt1u1", 10);
        isNoPlan("f1a1neswnest1u1", 10);
        isNoPlan("f9a60eeeeeeet1u1", 11);
        for (char letter = 1; letter <= 126; letter++) {
            String text = "f1a6" + letter + "t1u1";
            int swing = "nesw".indexOf(letter);
            if (swing >= 0) {
                isPlan(text, 10, swing);
            } else if (letter == '0') {
                isPlan(text, 1, 60);
            } else {
                isNoPlan(text, letter == 't' ? 5 : 4);
            }
        }
        isNoPlan("nf1a1t1u1", 0);
        isNoPlan("f1na1t1u1", 2);
        isNoPlan("f1an1t1u1", 3);
        isNoPlan("f1a1n1t1u1", 5);
        isNoPlan("f1a1tn1u1", 5);
        isNoPlan("f1a1t1nu1", 6);
        isNoPlan("f1a1t1un1", 7);
        isNoPlan("f1a1t1u1n", 8);
    }

    private void sides() {
        s.says("Terms", ", \"t\" and FIRST, \"u\" and SECOND (1 to 60 each).");
        upToSixty("f1a1t", "u1", 2);
        upToSixty("f9a60wwwwwwt", "u60", 2);
        upToSixty("f1a1t1u", "", 3);
        upToSixty("f9a60wwwwwwt60u", "", 3);
        isNoPlan("f1a1u1", 4);
        isNoPlan("f1a1t1", 6);
        isNoPlan("f1a1u1t1", 4);
        isNoPlan("f1a1t1u1u1", 8);
        isNoPlan("f1a1t1t1u1", 6);
    }

    private void noZeroAhead() {
        s.says("Terms", " Numbers have no 0 ahead.");
        String[] aheads = {"f", "f1a", "f1a1t", "f1a1t1u"};
        for (String ahead : aheads) {
            isNoPlan(ahead + "0", ahead.length());
            isNoPlan(ahead + "01", ahead.length());
            isNoPlan(ahead + "00", ahead.length());
            isNoPlan(ahead + "010", ahead.length());
        }
        isPlan("f1a10t20u30", 1, 10);
        isPlan("f1a10t20u30", 2, 20);
        isPlan("f1a10t20u30", 3, 30);
    }

    private void promise1() {
        s.says("Promise 1", "No PAN, no PLANS, no CAKES.");
        FirstPancake x = new FirstPancake();
        for (int what = 0; what <= 8; what++) {
            s.due("count(" + what + ")", x.count(what), 0);
        }
        s.due("no PAN", x.image(), Checks.STATE);
        s.due("no PLAN", x.planTold(0, 0), Checks.UNKNOWN);
        s.due("no CAKE", x.cake(0, 0), Checks.UNKNOWN);
        FirstPancake other = Checks.with("12/34", "f1a1t1u1");
        other.fry(0);
        for (int what = 0; what <= 2; what++) {
            s.due("beside another object: count(" + what + ")", new FirstPancake().count(what), 0);
        }
    }

    private void promise2() {
        howManyLetters();
        lowestFirst();
        untilZero();
        above126();
        behindZero();
        above40();
    }

    private void howManyLetters() {
        s.says("Promise 2", "Letters come behind THE PAGE, up to eight");
        for (int n = 0; n <= 8; n++) {
            FirstPancake x = new FirstPancake();
            s.due(n + " letters", x.letters(Checks.word("12345678".substring(0, n))), n);
            s.due(n + " more", x.letters(Checks.word("12345678".substring(0, n))), 2 * n);
            s.due("THE PAGE", x.blank(), 2 * n);
        }
        FirstPancake x = new FirstPancake();
        x.letters(Checks.word("12"));
        x.letters(0);
        x.letters(Checks.word("/3"));
        x.letters(Checks.word("4"));
        s.due("behind what was there", x.pan(), 4);
        s.due("the last one", x.cell(3, 0), 4);
        s.says("Promise 2", ": how many THE PAGE has.");
        FirstPancake y = new FirstPancake();
        s.due("none", y.letters(0), 0);
        s.due("one", y.letters(1), 1);
        s.due("one and none", y.letters(0), 1);
        s.due("one and two", y.letters(257), 3);
    }

    private void lowestFirst() {
        s.says("Promise 2", ", told by their codes in the bytes of w, the lowest byte first");
        FirstPancake x = new FirstPancake();
        x.letters(0x39_38_2F_37_36L);
        s.due("67/89", x.pan(), 4);
        for (int c = 0; c < 4; c++) {
            s.due("RING " + c, x.cell(c, 0), 6 + c);
        }
        x.letters(0x31_2F_38_37_36_35_34_33L);
        s.due("345678/1", x.fault(0), 4);
        x.blank();
        x.letters(0x36_35_2F_34_33_2F_32_31L);
        s.due("12/34/56, eight letters", x.pan(), 6);
        s.due("the highest byte is the last", x.cell(5, 0), 6);
    }

    private void untilZero() {
        s.says("Promise 2", ", until a byte that is 0");
        for (int n = 0; n < 8; n++) {
            FirstPancake x = new FirstPancake();
            long w = 0x7E7E7E7E7E7E7E7EL & (1L << 8 * n) - 1;
            s.due("a 0 at byte " + n, x.letters(w), n);
            s.due("THE PAGE", x.count(3), n);
        }
        s.due("no 0", new FirstPancake().letters(0x7E7E7E7E7E7E7E7EL), 8);
    }

    private void above126() {
        s.says("Promise 2", "OUTSIDE: a byte above 126");
        for (int place = 0; place < 8; place++) {
            long ahead = 0x0101010101010101L & (1L << 8 * place) - 1;
            for (int code = 1; code <= 255; code++) {
                FirstPancake x = new FirstPancake();
                long w = ahead | (long) code << 8 * place;
                if (code <= 126) {
                    s.due(code + " at byte " + place, x.letters(w), place + 1);
                } else {
                    s.refused(code + " at byte " + place, x, x.digest(), x.letters(w), Checks.OUTSIDE);
                }
            }
        }
        FirstPancake x = new FirstPancake();
        s.refused("all bits", x, x.digest(), x.letters(-1), Checks.OUTSIDE);
        s.refused("the greatest", x, x.digest(), x.letters(Long.MAX_VALUE), Checks.OUTSIDE);
        s.refused("the least", x, x.digest(), x.letters(Long.MIN_VALUE), Checks.OUTSIDE);
    }

    private void behindZero() {
        s.says("Promise 2", ", or one behind a 0 that is not 0");
        for (int zero = 0; zero < 7; zero++) {
            for (int behind = zero + 1; behind < 8; behind++) {
                FirstPancake x = new FirstPancake();
                long ahead = 0x3131313131313131L & (1L << 8 * zero) - 1;
                long w = ahead | 1L << 8 * behind;
                s.refused("a 0 at " + zero + ", a 1 at " + behind, x, x.digest(), x.letters(w), Checks.OUTSIDE);
                s.due("zeros alone behind it", x.letters(ahead), zero);
            }
        }
    }

    private void above40() {
        s.says("Promise 2", "; FULL: above 40.");
        for (int had = 30; had <= 40; had++) {
            for (int more = 0; more <= 8; more++) {
                FirstPancake x = paged("z".repeat(had));
                long w = Checks.word("y".repeat(more));
                if (had + more <= 40) {
                    s.due(had + " and " + more, x.letters(w), had + more);
                } else {
                    s.refused(had + " and " + more, x, x.digest(), x.letters(w), Checks.FULL);
                }
            }
        }
        FirstPancake full = paged("z".repeat(40));
        s.due("OUTSIDE is told ahead of FULL", full.letters(127), Checks.OUTSIDE);
        s.due("emptied", full.blank(), 40);
        s.due("room again", full.letters(Checks.word("yyyyyyyy")), 8);
    }

    private void promise3() {
        s.says("Promise 3", "THE PAGE is empty: how many letters it had.");
        for (int had = 0; had <= 40; had++) {
            FirstPancake x = paged("z".repeat(had));
            s.due("blank() of " + had, x.blank(), had);
            s.due("empty", x.count(3), 0);
            s.due("blank() again", x.blank(), 0);
            s.due("as new", x.digest(), new FirstPancake().digest());
        }
    }

    private void promise4() {
        firstFault();
        noFault();
        faultOutside();
    }

    private void firstFault() {
        s.says("Promise 4", "The place (from 0) of the first letter of THE PAGE that no PAN (sort 0), PLAN (1) has "
                + "there, behind those ahead of it");
        String pan = "1s2s3s4s/1s2s3s4s/1s2s3s4s/1s2s3s4s";
        String plan = "f9a60nnnnnnt60u60";
        for (int place = 0; place <= pan.length(); place++) {
            s.due("PAN, place " + place, paged(pan.substring(0, place) + "x").fault(0), place);
            s.due("more behind it", paged(pan.substring(0, place) + "x1x").fault(0), place);
        }
        for (int place = 0; place <= plan.length(); place++) {
            s.due("PLAN, place " + place, paged(plan.substring(0, place) + "x").fault(1), place);
            s.due("more behind it", paged(plan.substring(0, place) + "x1x").fault(1), place);
        }
        s.due("a PAN is no PLAN", paged("12/34").fault(1), 0);
        s.due("a PLAN is no PAN", paged("f1a1t1u1").fault(0), 0);
        s.due("a full PAGE", paged(pan + "/////").fault(0), 35);
        s.due("a full PAGE", paged(plan + "0".repeat(23)).fault(1), 17);
    }

    private void noFault() {
        s.says("Promise 4", "; how many letters it has, if there is none.");
        s.due("empty, as a PAN", paged("").fault(0), 0);
        s.due("empty, as a PLAN", paged("").fault(1), 0);
        String pan = "1s2s3s4s/1s2s3s4s/1s2s3s4s/1s2s3s4s";
        String plan = "f9a60nnnnnnt60u60";
        for (int n = 1; n <= pan.length(); n++) {
            s.due(n + " of a PAN", paged(pan.substring(0, n)).fault(0), n);
        }
        for (int n = 1; n <= plan.length(); n++) {
            s.due(n + " of a PLAN", paged(plan.substring(0, n)).fault(1), n);
        }
        s.due("1 behind AMOUNT 6 is wrong, 0 not", paged("f1a60").fault(1), 5);
        s.due("1 behind AMOUNT 6 is wrong, 0 not", paged("f1a61").fault(1), 4);
        s.due("9 behind 5", paged("f1a59").fault(1), 5);
    }

    private void faultOutside() {
        s.says("Promise 4", " OUTSIDE.");
        FirstPancake x = paged("12");
        for (int sort : new int[] {Integer.MIN_VALUE, -2, -1, 2, 3, Integer.MAX_VALUE}) {
            s.refused("fault(" + sort + ")", x, x.digest(), x.fault(sort), Checks.OUTSIDE);
        }
        s.due("fault(0)", x.fault(0), 2);
        s.due("fault(1)", x.fault(1), 0);
    }

    private void promise5() {
        s.says("Promise 5", "THE PAGE is read as THE PAN (another one is gone, with all CAKES; WARMTH, BITS, FAT are 0)");
        FirstPancake x = Checks.with("9s9s9s9s/9s9s9s9s/9s9s9s9s/9s9s9s9s", "f9a60neswnet9u9");
        x.fry(0);
        x.fry(0);
        x.fat(9);
        s.due("another one", Checks.pan(x, "9s9s9s9s/9s9s9s9s/9s9s9s9s/9s9s9s9s"), 16);
        s.due("CAKES", x.count(2), 0);
        s.due("no CAKE", x.cake(0, 0), Checks.UNKNOWN);
        s.due("no THICK", x.thick(0, 0), Checks.UNKNOWN);
        s.due("FAT", x.count(4), 0);
        s.due("BITS", x.count(5), 0);
        for (int c = 0; c < 16; c++) {
            s.due("WARMTH of " + c, x.cell(c, 2), 0);
            s.due("BITS of " + c, x.cell(c, 3), 0);
        }
        s.due("PLANS stay", x.count(1), 1);
        FirstPancake fresh = Checks.with("9s9s9s9s/9s9s9s9s/9s9s9s9s/9s9s9s9s", "f9a60neswnet9u9");
        s.due("it fries as a new one", x.fry(0), fresh.fry(0));
        s.dueAll("it fries as a new one", Checks.cakeRow(x, 0), Checks.cakeRow(fresh, 0));
        smallerPans();
        s.says("Promise 5", ": how many CELLS; THE PAGE is empty then.");
        for (int rows = 2; rows <= 4; rows++) {
            for (int columns = 2; columns <= 4; columns++) {
                FirstPancake y = paged(rows(rows, columns));
                s.due("pan()", y.pan(), rows * columns);
                s.due("THE PAGE", y.count(3), 0);
                s.due("an empty PAGE is none", y.pan(), Checks.STATE);
            }
        }
        panRefused();
    }

    /** What lay in CELLS that a smaller PAN does not have is gone, too. */
    private void smallerPans() {
        FirstPancake x = Checks.with("9s9s9s9s/9s9s9s9s/9s9s9s9s/9s9s9s9s", "f9a60neswnet9u9", "f1a3t1u1");
        x.fry(0);
        s.due("a smaller one", Checks.pan(x, "11/11"), 4);
        s.due("CELL 3", x.cell(3, 0), 1);
        s.due("CELL 3 is not STICKY", x.cell(3, 1), 0);
        s.due("CELL 4", x.cell(4, 0), Checks.UNKNOWN);
        s.due("PALE", x.fry(1), 1);
        s.due("a greater one", Checks.pan(x, "1111/1111/1111/1111"), 16);
        s.due("BITS", x.count(5), 0);
        s.due("warm(1, 1)", x.warm(1, 1), 1);
    }

    private void panRefused() {
        s.says("Promise 5", " STATE: it is none.");
        isNoPan("", 0);
        isNoPan("12/3", 4);
        isPan("12/34", 4);
        isNoPan("12/34/", 6);
        isNoPan("12/345", 5);
        FirstPancake x = Checks.with("1s2/34", "f9a9t9u9");
        x.fry(0);
        x.fat(4);
        x.image();
        Checks.tell(x, "12/3");
        s.refused("with a PAN", x, x.digest(), x.pan(), Checks.STATE);
        s.due("the CAKE stays", x.count(2), 1);
        s.due("it was not read", x.count(6), 1);
        s.due("the IMAGE stays", x.restore(), 1);
    }

    private void promise6() {
        s.says("Promise 6", "THE PAGE is read as a PLAN: its number; THE PAGE is empty then.");
        FirstPancake x = new FirstPancake();
        for (int i = 0; i < 6; i++) {
            s.due("PLAN " + i, Checks.plan(x, "f1a1t1u" + (i + 1)), i);
            s.due("THE PAGE", x.count(3), 0);
            s.due("PLANS", x.count(1), i + 1);
        }
        s.says("Promise 6", " STATE: it is none");
        isNoPlan("", 0);
        isNoPlan("f1a1t1u", 7);
        isPlan("f1a1t1u1", 4, 0);
        isNoPlan("f1a1t1u1u", 8);
        isNoPlan("f1a1t1u601", 9);
        s.says("Promise 6", "; FULL.");
        FirstPancake y = Checks.with("12/34", "f1a1t1u1", "f1a1t1u1", "f1a1t1u1", "f1a1t1u1");
        s.due("the fifth", Checks.plan(y, "f1a1t1u1"), 4);
        s.due("the sixth", Checks.plan(y, "f1a1t1u1"), 5);
        Checks.tell(y, "f1a1t1u2");
        s.refused("the seventh", y, y.digest(), y.plan(), Checks.FULL);
        s.due("THE PAGE stays", y.blank(), 8);
        s.refused("STATE is told ahead of FULL", y, y.digest(), y.plan(), Checks.STATE);
        Checks.pan(y, "12/34");
        s.due("another PAN gives no room", Checks.plan(y, "f1a1t1u1"), Checks.FULL);
    }

    private void promise7() {
        s.says("Promise 7", "Of a PLAN: what = 0 FIRE, 1 AMOUNT, 2 FIRST, 3 SECOND, 4 how many SWINGS");
        FirstPancake x = new FirstPancake();
        Checks.plan(x, "f2a3newt4u5");
        Checks.plan(x, "f9a60nnnnnnt59u58");
        int[][] told = {{2, 3, 4, 5, 3}, {9, 60, 59, 58, 6}};
        for (int p = 0; p < 2; p++) {
            for (int what = 0; what <= 4; what++) {
                s.due("planTold(" + p + ", " + what + ")", x.planTold(p, what), told[p][what]);
            }
        }
        s.says("Promise 7", ", 10 to 15 the so-manieth of these (0 n, 1 e, 2 s, 3 w; NONE: there is none).");
        String swings = "neswwn";
        for (int k = 0; k <= 6; k++) {
            FirstPancake y = paged("f1a1" + swings.substring(0, k) + "t1u1");
            y.plan();
            for (int i = 0; i < 6; i++) {
                int due = i < k ? "nesw".indexOf(swings.charAt(i)) : Checks.NONE;
                s.due("SWING " + i + " of " + k, y.planTold(0, 10 + i), due);
            }
        }
        s.says("Promise 7", " UNKNOWN; OUTSIDE.");
        for (int plan : new int[] {Integer.MIN_VALUE, -1, 2, 3, 5, 6, Integer.MAX_VALUE}) {
            s.refused("planTold(" + plan + ", 0)", x, x.digest(), x.planTold(plan, 0), Checks.UNKNOWN);
            s.refused("planTold(" + plan + ", 5)", x, x.digest(), x.planTold(plan, 5), Checks.UNKNOWN);
        }
        for (int what : new int[] {Integer.MIN_VALUE, -1, 5, 6, 7, 8, 9, 16, 17, Integer.MAX_VALUE}) {
            s.refused("planTold(1, " + what + ")", x, x.digest(), x.planTold(1, what), Checks.OUTSIDE);
        }
        s.due("no PLAN", new FirstPancake().planTold(0, 0), Checks.UNKNOWN);
    }

    private void promise8() {
        s.says("Promise 8", "Of a CELL: what = 0 RING, 1 whether it is STICKY (1, 0), 2 WARMTH, 3 BITS.");
        FirstPancake x = Checks.with("0s9/19s", "f1a1t1u1");
        x.fry(0);
        x.warm(9, 1);
        int[][] told = {{0, 1, 0, 0}, {9, 0, 98, 0}, {1, 0, 11, 0}, {9, 1, 98, 1}};
        for (int c = 0; c < 4; c++) {
            for (int what = 0; what <= 3; what++) {
                s.due("cell(" + c + ", " + what + ")", x.cell(c, what), told[c][what]);
            }
        }
        s.says("Promise 8", " UNKNOWN (without a PAN, too)");
        for (int rows = 2; rows <= 4; rows++) {
            for (int columns = 2; columns <= 4; columns++) {
                FirstPancake y = Checks.with(rows(rows, columns));
                int cells = rows * columns;
                s.due("the first of " + cells, y.cell(0, 0), 7);
                s.due("the last of " + cells, y.cell(cells - 1, 0), 7);
                for (int cell : new int[] {Integer.MIN_VALUE, -1, cells, cells + 1, Integer.MAX_VALUE}) {
                    s.refused("cell(" + cell + ", 0)", y, y.digest(), y.cell(cell, 0), Checks.UNKNOWN);
                    s.refused("cell(" + cell + ", 4)", y, y.digest(), y.cell(cell, 4), Checks.UNKNOWN);
                }
            }
        }
        FirstPancake none = new FirstPancake();
        for (int cell : new int[] {-1, 0, 1, 15, 16}) {
            s.due("without a PAN, " + cell, none.cell(cell, 0), Checks.UNKNOWN);
            s.due("without a PAN, " + cell, none.cell(cell, 4), Checks.UNKNOWN);
        }
        s.says("Promise 8", "; OUTSIDE.");
        for (int what : new int[] {Integer.MIN_VALUE, -1, 4, 5, Integer.MAX_VALUE}) {
            s.refused("cell(3, " + what + ")", x, x.digest(), x.cell(3, what), Checks.OUTSIDE);
        }
    }
}
