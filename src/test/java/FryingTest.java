/** Promises 9 to 15: warm, fat, scrape, fry and what is told of CAKES. The numbers are reckoned by hand. */
public final class FryingTest {
    private static final Checks CHECKS = new Checks();

    private static void due(String call, long got, long want) {
        CHECKS.due(call, got, want);
    }

    private static void promise9Warm() {
        FirstPancake x = new FirstPancake();
        due("STATE ahead of OUTSIDE", x.warm(-1, 0), Checks.STATE);
        Checks.pan(x, "12/3s0");
        due("warm(4, 1)", x.warm(4, 1), 12);
        CHECKS.dueAll("WARMTH", Checks.warmthRow(x), 4, 8, 12, 0);
        due("warm(4, 1)", x.warm(4, 1), 23);
        CHECKS.dueAll("a tenth of what it was is less", Checks.warmthRow(x), 8, 16, 23, 0);
        for (int[] wrong : new int[][] {{-1, 1}, {10, 1}, {1, 0}, {1, 201}, {1, -5}, {Integer.MAX_VALUE, 1}}) {
            due("warm(" + wrong[0] + ", " + wrong[1] + ")", x.warm(wrong[0], wrong[1]), Checks.OUTSIDE);
        }
        CHECKS.dueAll("refusals change nothing", Checks.warmthRow(x), 8, 16, 23, 0);
        due("warm(9, 200)", x.warm(9, 200), 270);
        due("the greatest at the end, not on the way", x.warm(0, 1), 243);
        due("fire 0 goes down to 9", x.warm(0, 200), 9);
        due("no CAKE comes of it", x.count(2), 0);
    }

    private static void promise10Fat() {
        FirstPancake x = new FirstPancake();
        due("STATE ahead of OUTSIDE", x.fat(10), Checks.STATE);
        Checks.pan(x, "11/11");
        due("fat(9)", x.fat(9), 0);
        due("fat(10)", x.fat(10), Checks.OUTSIDE);
        due("fat(-1)", x.fat(-1), Checks.OUTSIDE);
        due("fat(0)", x.fat(0), 9);
        due("fat(3)", x.fat(3), 0);
        due("FAT", x.count(4), 3);
    }

    private static void promise11Scrape() {
        FirstPancake x = new FirstPancake();
        due("STATE", x.scrape(), Checks.STATE);
        Checks.pan(x, "9s9s/9s9s");
        Checks.plan(x, "f1a4wt1u1");
        due("none", x.scrape(), 0);
        for (int i = 1; i <= 11; i++) {
            due("TORN", x.fry(0), 5);
            due("BITS, 9 at most a CELL", x.count(5), 2 * Math.min(9, i));
        }
        due("all", x.scrape(), 18);
        due("gone", x.count(5), 0);
        due("gone", x.scrape(), 0);
        due("CAKES stay", x.count(2), 11);
    }

    private static void promise12WhereItIsPoured() {
        String[] pans = {"11/11", "11/11/11", "11/11/11/11", "111/111", "111/111/111", "1111/1111", "1111/1111/1111/1111"};
        int[] middles = {3, 3, 5, 4, 4, 6, 10};
        for (int i = 0; i < pans.length; i++) {
            FirstPancake x = Checks.with(pans[i], "f1a7t1u1");
            due("PALE", x.fry(0), 1);
            due("middle of " + pans[i], x.thick(0, middles[i]), 7);
            due("nowhere else", x.cake(0, 4), 1);
        }
    }

    private static void promise12Tick() {
        FirstPancake x = Checks.with("99/99", "f9a3t1u1");
        due("fry", x.fry(0), 1);
        CHECKS.dueAll("21 by 5, 94 by 5", Checks.cakeRow(x, 0), 1, 4, 18, 0, 1, 0, 4);
        CHECKS.dueAll("WARMTH", Checks.warmthRow(x), 154, 154, 154, 154);
        FirstPancake swung = Checks.with("99/99", "f9a4nt1u1");
        due("warm", swung.warm(9, 1), 81);
        due("fry", swung.fry(0), 0);
        CHECKS.dueAll("14 by the SWING's TICK, 25 behind it", Checks.cakeRow(swung, 0), 0, 39, 35, 0, 1, 0, 10);
        FirstPancake y = Checks.with("55/55", "f1a9t1u1");
        due("warm", y.warm(2, 5), 43);
        y.fry(0);
        CHECKS.dueAll("twice AMOUNT less", Checks.warmthRow(y), 45, 45, 45, 31);
    }

    private static void promise12Swings() {
        String[] swings = {"n", "e", "s", "w", "ne", "nes", "nesw"};
        int[][] thick = {{0, 5, 0, 0, 5, 0, 0, 0, 0}, {0, 0, 0, 0, 5, 5, 0, 0, 0}, {0, 0, 0, 0, 5, 0, 0, 5, 0},
            {0, 0, 0, 5, 5, 0, 0, 0, 0}, {0, 3, 2, 0, 3, 2, 0, 0, 0}, {0, 2, 1, 0, 3, 2, 0, 1, 1},
            {1, 1, 1, 1, 3, 1, 0, 1, 1}};
        for (int i = 0; i < swings.length; i++) {
            FirstPancake x = Checks.with("111/111/111", "f1a10" + swings[i] + "t1u1");
            x.fry(0);
            CHECKS.dueAll("THICK by " + swings[i], Checks.thickRow(x, 0), thick[i]);
        }
        FirstPancake rim = Checks.with("11/11", "f1a9est1u1", "f1a9t1u1", "f1a9nt1u1");
        rim.fry(0);
        CHECKS.dueAll("nothing goes beyond the rim", Checks.thickRow(rim, 0), 0, 0, 0, 9);
        rim.fry(2);
        CHECKS.dueAll("half of 8", Checks.thickRow(rim, 1), 0, 4, 0, 5);
    }

    private static void promise12WhatComesCools() {
        FirstPancake x = Checks.with("999/999/999", "f1a10nt1u1");
        due("warm", x.warm(9, 1), 81);
        due("fry", x.fry(0), 1);
        CHECKS.dueAll("CAKE", Checks.cakeRow(x, 0), 1, 1, 1, 0, 2, 0, 4);
        CHECKS.dueAll("WARMTH", Checks.warmthRow(x), 84, 76, 84, 84, 70, 84, 84, 84, 84);
        FirstPancake cold = Checks.with("00/00", "f1a60nt1u1");
        cold.fry(0);
        CHECKS.dueAll("0 at least", Checks.warmthRow(cold), 0, 0, 0, 0);
    }

    private static void promise12Fast() {
        FirstPancake x = Checks.with("55/55", "f2a26nt1u1", "f4a31nt1u1");
        due("warm", x.warm(3, 200), 150);
        x.image();
        x.fry(0);
        CHECKS.dueAll("99 is not FAST", Checks.thickRow(x, 0), 0, 13, 0, 13);
        x.restore();
        x.fry(1);
        CHECKS.dueAll("100 is FAST", Checks.thickRow(x, 0), 0, 0, 0, 31);
        FirstPancake y = Checks.with("22/20", "f2a60nnst1u1");
        due("warm", y.warm(9, 200), 180);
        due("LOPSIDED", y.fry(0), 4);
        CHECKS.dueAll("FAST for good, and what comes to it stays", Checks.thickRow(y, 0), 0, 45, 0, 15);
        FirstPancake thin = Checks.with("22/20", "f1a3nnst1u1");
        thin.warm(9, 200);
        due("warm", thin.warm(0, 4), 119);
        thin.fry(0);
        CHECKS.dueAll("FAST with THICK 1, too", Checks.thickRow(thin, 0), 0, 2, 0, 1);
    }

    private static void promise12Stuck() {
        FirstPancake x = Checks.with("1s1/11s", "f1a1t1u1");
        x.fat(1);
        due("FAT above BITS", x.fry(0), 1);
        due("FAT is 1 less", x.count(4), 0);
        FirstPancake fat = Checks.with("11/11", "f1a1t1u1");
        fat.fat(9);
        fat.fry(0);
        due("FAT is 1 less", fat.count(4), 8);
        due("FAT 0, BITS 0", x.fry(0), 5);
        due("FAT is 0 at least", x.count(4), 0);
        due("BITS there", x.cell(3, 3), 1);
        due("none where nothing lay", x.cell(0, 3), 0);
        x.fat(1);
        due("FAT 1, BITS 1", x.fry(0), 5);
        x.fat(3);
        due("FAT 3, BITS 2", x.fry(0), 1);
        due("no more BITS", x.cell(3, 3), 2);
        due("FAT 2, BITS 2", x.fry(0), 5);
    }

    private static void promise12Refusals() {
        FirstPancake x = new FirstPancake();
        due("UNKNOWN ahead of STATE", x.fry(0), Checks.UNKNOWN);
        Checks.plan(x, "f1a1t1u1");
        due("STATE", x.fry(0), Checks.STATE);
        due("UNKNOWN", x.fry(-1), Checks.UNKNOWN);
        Checks.pan(x, "11/11");
        for (int i = 0; i < 24; i++) {
            due("fry " + i, x.fry(0), 1);
            due("the next one in number", x.count(2), i + 1);
        }
        long before = x.digest();
        due("FULL", x.fry(0), Checks.FULL);
        due("UNKNOWN ahead of FULL", x.fry(1), Checks.UNKNOWN);
        due("refusals change nothing", x.digest(), before);
    }

    private static void kindDue(String pan, String plan, int mean, int kind, int worth) {
        FirstPancake x = Checks.with(pan, plan);
        due("fry " + plan, x.fry(0), kind);
        due("KIND " + plan, x.cake(0, 0), kind);
        due("MEAN " + plan, x.cake(0, 1), mean);
        due("WORTH " + plan, x.cake(0, 6), worth);
    }

    private static void promise13Cake() {
        kindDue("11/11", "f8a5t26u1", 19, 1, 4);
        kindDue("11/11", "f7a2t30u1", 20, 0, 10);
        kindDue("22/22", "f6a6t22u1", 60, 0, 10);
        kindDue("11/11", "f8a1t27u1", 61, 2, 6);
        kindDue("11/11", "f9a2t30u1", 100, 2, 6);
        kindDue("22/22", "f6a3t22u1", 101, 3, 1);
        FirstPancake x = Checks.with("11/11", "f1a19nnt1u1", "f1a20nnt1u1", "f1a20nnt60u60");
        due("EDGE 9 is PALE", x.fry(0), 1);
        CHECKS.dueAll("EDGE 9", Checks.cakeRow(x, 0), 1, 0, 0, 9, 2, 0, 4);
        due("EDGE 10 is LOPSIDED", x.fry(1), 4);
        CHECKS.dueAll("EDGE 10", Checks.cakeRow(x, 1), 4, 0, 0, 10, 2, 0, 5);
        FirstPancake torn = Checks.with("9s9s/9s9s", "f9a20nnt9u9");
        due("TORN ahead of LOPSIDED", torn.fry(0), 5);
        due("STUCK", torn.cake(0, 5), torn.cake(0, 4));
        due("TORN", torn.cake(0, 6), 2);
        for (int what : new int[] {-1, 7, Integer.MAX_VALUE, Integer.MIN_VALUE}) {
            due("cake(0, " + what + ")", x.cake(0, what), Checks.OUTSIDE);
        }
        due("cake(2, 0)", x.cake(2, 0), Checks.UNKNOWN);
        due("cake(-1, 0)", x.cake(-1, 0), Checks.UNKNOWN);
        due("UNKNOWN ahead of OUTSIDE", x.cake(2, 7), Checks.UNKNOWN);
        due("without a PAN", new FirstPancake().cake(0, 0), Checks.UNKNOWN);
    }

    private static void promise14As() {
        FirstPancake x = Checks.with("9s9s/9s9s", "f9a1t2u1", "f1a20nnt1u1", "f9a2t4u1", "f9a3t1u1", "f9a2t3u1");
        int[] plans = {0, 1, 2, 3, 0, 4};
        int[] kinds = {0, 4, 3, 1, 5, 2};
        int[][] also = {{0}, {0, 4}, {0, 2, 3}, {0, 1}, {0, 4, 5}, {0, 2}};
        for (int cake = 0; cake < 6; cake++) {
            x.warm(0, 200);
            x.fat(cake == 4 ? 0 : 9);
            due("KIND of " + cake, x.fry(plans[cake]), kinds[cake]);
        }
        for (int cake = 0; cake < 6; cake++) {
            for (int kind = 0; kind <= 5; kind++) {
                boolean is = false;
                for (int one : also[cake]) {
                    is |= one == kind;
                }
                due("as(" + cake + ", " + kind + ")", x.as(cake, kind), is ? cake : Checks.NONE);
            }
        }
        due("as(0, 6)", x.as(0, 6), Checks.OUTSIDE);
        due("as(0, -1)", x.as(0, -1), Checks.OUTSIDE);
        due("as(6, 0)", x.as(6, 0), Checks.UNKNOWN);
        due("as(-1, 0)", x.as(-1, 0), Checks.UNKNOWN);
        due("UNKNOWN ahead of OUTSIDE", x.as(6, 6), Checks.UNKNOWN);
        due("worth of all", x.count(8), 10 + 5 + 1 + 4 + 2 + 6);
    }

    private static void promise15Thick() {
        FirstPancake x = Checks.with("11/11", "f1a5nt1u1", "f1a9t1u1");
        due("no CAKE yet", x.thick(0, 0), Checks.UNKNOWN);
        x.fry(0);
        x.fry(1);
        CHECKS.dueAll("first", Checks.thickRow(x, 0), 0, 2, 0, 3);
        CHECKS.dueAll("second", Checks.thickRow(x, 1), 0, 0, 0, 9);
        due("thick(2, 0)", x.thick(2, 0), Checks.UNKNOWN);
        due("thick(-1, 0)", x.thick(-1, 0), Checks.UNKNOWN);
        due("thick(0, 4)", x.thick(0, 4), Checks.UNKNOWN);
        due("thick(0, -1)", x.thick(0, -1), Checks.UNKNOWN);
        due("thick(0, MIN)", x.thick(0, Integer.MIN_VALUE), Checks.UNKNOWN);
    }

    public static void main(String[] args) {
        promise9Warm();
        promise10Fat();
        promise11Scrape();
        promise12WhereItIsPoured();
        promise12Tick();
        promise12Swings();
        promise12WhatComesCools();
        promise12Fast();
        promise12Stuck();
        promise12Refusals();
        promise13Cake();
        promise14As();
        promise15Thick();
        CHECKS.end();
    }
}
