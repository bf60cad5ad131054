/** Promises 27 to 30: images, counts, the digest. */
public final class AllToldTest {
    private static final Checks CHECKS = new Checks();

    private static void due(String call, long got, long want) {
        CHECKS.due(call, got, want);
    }

    private static FirstPancake used() {
        FirstPancake x = Checks.with("5s6s/4s7s", "f3a9wnt5u5", "f6a20nnt9u3");
        x.fry(0);
        x.fry(1);
        x.fat(4);
        return x;
    }

    private static void promise27And28ImageAndRestore() {
        FirstPancake x = used();
        due("none was kept", x.restore(), Checks.STATE);
        due("image", x.image(), 2);
        long kept = x.digest();
        x.fry(1);
        x.scrape();
        x.fat(8);
        x.warm(9, 9);
        x.fry(0);
        due("restore", x.restore(), 2);
        due("as it was", x.digest(), kept);
        due("those that came since are gone", x.cake(2, 0), Checks.UNKNOWN);
        x.fry(0);
        due("restore once more", x.restore(), 2);
        due("as it was", x.digest(), kept);
        x.fry(0);
        due("the latest", x.image(), 3);
        long latest = x.digest();
        x.fry(1);
        due("the latest", x.restore(), 3);
        due("as it was then", x.digest(), latest);
    }

    private static void promise28WhatRestoreLeaves() {
        FirstPancake x = used();
        x.image();
        Checks.plan(x, "f1a1t1u1");
        Checks.tell(x, "12/34");
        x.nextTwo(0);
        x.restore();
        due("PLANS stay", x.count(1), 3);
        due("THE PAGE stays", x.count(3), 5);
        due("searches stay", x.count(7), 1);
        x.blank();
        Checks.pan(x, "5s6s/4s7s");
        due("a PAN was read since", x.restore(), Checks.STATE);
        due("image of a new PAN", x.image(), 0);
        x.fat(3);
        due("restore", x.restore(), 0);
        due("FAT", x.count(4), 0);
        Checks.tell(x, "12/3");
        due("no PAN", x.pan(), Checks.STATE);
        due("a text that is no PAN leaves the image", x.restore(), 0);
        due("image without a PAN", new FirstPancake().image(), Checks.STATE);
        due("restore without a PAN", new FirstPancake().restore(), Checks.STATE);
    }

    private static void promise29Count() {
        FirstPancake x = used();
        x.bestSwing(0, 1, 0);
        Checks.tell(x, "abc");
        int bits = 0;
        for (int c = 0; c < 4; c++) {
            bits += x.cell(c, 3);
        }
        due("CELLS", x.count(0), 4);
        due("PLANS", x.count(1), 2);
        due("CAKES", x.count(2), 2);
        due("letters", x.count(3), 3);
        due("FAT", x.count(4), 4);
        due("BITS", x.count(5), bits);
        due("some BITS", bits > 1 ? 1 : 0, 1);
        due("PANS read", x.count(6), 1);
        due("the two", x.count(7), 1);
        due("WORTH", x.count(8), x.cake(0, 6) + x.cake(1, 6));
        for (int what : new int[] {-1, 9, Integer.MIN_VALUE, Integer.MAX_VALUE}) {
            due("count(" + what + ")", x.count(what), Checks.OUTSIDE);
        }
    }

    private static long digestByHand(FirstPancake x, String page) {
        long h = 499;
        for (int c = 0; c < x.count(0); c++) {
            for (int what = 0; what <= 3; what++) {
                h = 31 * h + x.cell(c, what);
            }
        }
        for (int p = 0; p < x.count(1); p++) {
            for (int what = 0; what <= 4; what++) {
                h = 31 * h + x.planTold(p, what);
            }
            for (int i = 0; i < x.planTold(p, 4); i++) {
                h = 31 * h + x.planTold(p, 10 + i);
            }
        }
        for (int k = 0; k < x.count(2); k++) {
            for (int what = 0; what <= 6; what++) {
                h = 31 * h + x.cake(k, what);
            }
            for (int c = 0; c < x.count(0); c++) {
                h = 31 * h + x.thick(k, c);
            }
        }
        for (int p = 0; x.count(0) > 0 && p < x.count(1); p++) {
            h = 31 * h + x.tried(p, 0);
            h = 31 * h + x.tried(p, 1);
        }
        for (char letter : page.toCharArray()) {
            h = 31 * h + letter;
        }
        for (int what = 0; what <= 8; what++) {
            h = 31 * h + x.count(what);
        }
        return h;
    }

    private static void promise30Digest() {
        FirstPancake x = new FirstPancake();
        due("new", x.digest(), digestByHand(x, ""));
        due("new", x.digest(), 13193371458174829L);
        Checks.tell(x, "12~/");
        due("letters", x.digest(), digestByHand(x, "12~/"));
        x.blank();
        Checks.plan(x, "f3a9wnt5u5");
        due("a PLAN without a PAN", x.digest(), digestByHand(x, ""));
        Checks.pan(x, "5s6s/4s7s");
        Checks.plan(x, "f6a20t9u3");
        due("a PAN", x.digest(), digestByHand(x, ""));
        x.fat(2);
        x.fry(0);
        x.fry(1);
        x.fry(1);
        Checks.tell(x, "f");
        long digest = x.digest();
        due("CAKES", digest, digestByHand(x, "f"));
        due("it changes nothing", x.digest(), digest);
    }

    public static void main(String[] args) {
        promise27And28ImageAndRestore();
        promise28WhatRestoreLeaves();
        promise29Count();
        promise30Digest();
        CHECKS.end();
    }
}
