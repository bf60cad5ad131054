import java.math.BigInteger;
import java.util.ArrayList;
import java.util.List;

/** The boundary cases of images, counts, the digest, refusals, and of how long an object is used (promises 27 to 30). */
final class ToldBoundaries {
    private final Sentences s;

    ToldBoundaries(Sentences s) {
        this.s = s;
    }

    void all() {
        fiveHundredAndTwelve();
        whatAnImageKeeps();
        refusals();
        withoutAPan();
        promise27();
        promise28();
        promise29();
        promise30();
    }

    private void fiveHundredAndTwelve() {
        s.says("What it is", "An object is used for at most 512 calls after it has been made; what later calls answer is "
                + "free.");
        FirstPancake x = Checks.with("5s6s/4s7s", "f3a9wnt5u5");
        // Three calls of letters(), pan(), plan(): five.
        int calls = 5;
        while (calls < 508) {
            s.due("a letter", x.letters('1'), 1);
            s.due("and none", x.blank(), 1);
            calls += 2;
        }
        while (calls < 510) {
            s.due("none", x.blank(), 0);
            calls++;
        }
        FirstPancake fresh = Checks.with("5s6s/4s7s", "f3a9wnt5u5");
        s.due("the 511th", x.fry(0), fresh.fry(0));
        s.due("the 512th", x.digest(), fresh.digest());
        for (int i = 0; i < 100; i++) {
            x.fry(0);
            x.nextTwo(0);
            x.letters(-1 >>> 8 * (i % 8));
            x.pan();
        }
    }

    private void whatAnImageKeeps() {
        s.says("Terms", "An IMAGE keeps WARMTH, BITS, FAT, how many CAKES there are (those that come since are gone by "
                + "restore()).");
        for (int had : new int[] {0, 1, 2, 23, 24}) {
            FirstPancake x = Checks.with("5s6s/4s7s", "f3a9wnt5u5", "f6a20nnt9u3");
            for (int i = 0; i < had; i++) {
                x.fry(i % 2);
            }
            x.fat(had % 10);
            s.due("image()", x.image(), had);
            long kept = x.digest();
            for (int i = had; i < 24; i++) {
                x.fry(0);
            }
            x.warm(9, 3);
            s.due("WARMTH, BITS, FAT", x.restore(), had);
            s.due("as it was", x.digest(), kept);
            s.due("the last one", x.cake(had - 1, 0) >= 0 ? 1 : 0, had > 0 ? 1 : 0);
            s.due("the one behind it is gone", x.cake(had, 0), Checks.UNKNOWN);
            x.scrape();
            x.fat(9);
            s.due("once more", x.restore(), had);
            s.due("as it was", x.digest(), kept);
        }
        FirstPancake x = Checks.with("5s6s/4s7s", "f3a9wnt5u5");
        x.image();
        Checks.plan(x, "f1a1t1u1");
        Checks.tell(x, "12");
        x.nextTwo(0);
        x.restore();
        s.dueAll("no more: PLANS, letters, how often the two were done", new int[] {x.count(1), x.count(3), x.count(7)},
                2, 2, 1);
    }

    private void refusals() {
        s.says("Terms", " Refusals, of several the first as told by each call: UNKNOWN (a number names nothing), OUTSIDE "
                + "(it is not as told), STATE (as told), FULL; they change nothing.");
        FirstPancake x = Checks.with("1s2s/3s4s", "f1a2nt1u1", "f1a2nt1u1", "f1a2nt1u1", "f1a2nt1u1", "f1a2nt1u1",
                "f1a2nt1u1");
        for (int i = 0; i < 24; i++) {
            x.fry(0);
        }
        for (int i = 0; i < 30; i++) {
            x.nextTwo(0);
        }
        Checks.tell(x, "f1a1t1u1");
        x.image();
        Checks.tell(x, "//////////////////////////////");
        int[] wrong = {Integer.MIN_VALUE, -1, 1000, Integer.MAX_VALUE};
        for (int off : wrong) {
            s.refused("letters", x, x.digest(), x.letters(-1), Checks.OUTSIDE);
            s.refused("fault", x, x.digest(), x.fault(off), Checks.OUTSIDE);
            s.refused("planTold", x, x.digest(), x.planTold(off, off), Checks.UNKNOWN);
            s.refused("cell", x, x.digest(), x.cell(off, off), Checks.UNKNOWN);
            s.refused("warm", x, x.digest(), x.warm(off, off), Checks.OUTSIDE);
            s.refused("fat", x, x.digest(), x.fat(off), Checks.OUTSIDE);
            s.refused("fry", x, x.digest(), x.fry(off), Checks.UNKNOWN);
            s.refused("fry", x, x.digest(), x.fry(0), Checks.FULL);
            s.refused("cake", x, x.digest(), x.cake(off, off), Checks.UNKNOWN);
            s.refused("as", x, x.digest(), x.as(off, off), Checks.UNKNOWN);
            s.refused("thick", x, x.digest(), x.thick(off, off), Checks.UNKNOWN);
            s.refused("tried", x, x.digest(), x.tried(off, off), Checks.UNKNOWN);
            s.refused("bestFire", x, x.digest(), x.bestFire(off, off, off), Checks.UNKNOWN);
            s.refused("bestSwing", x, x.digest(), x.bestSwing(off, off, off), Checks.UNKNOWN);
            s.refused("bestSwing", x, x.digest(), x.bestSwing(0, off, off), Checks.OUTSIDE);
            s.refused("bestSwing", x, x.digest(), x.bestSwing(0, 1, 0), Checks.STATE);
            s.refused("nextTwo", x, x.digest(), x.nextTwo(off), Checks.OUTSIDE);
            s.refused("nextTwo", x, x.digest(), x.nextTwo(0), Checks.STATE);
            s.refused("rounds", x, x.digest(), x.rounds(off, off, off, off, off, off), Checks.OUTSIDE);
            s.refused("toss", x, x.digest(), x.toss(off, off), Checks.OUTSIDE);
            s.refused("lands", x, x.digest(), x.lands(off, off, off, off), Checks.OUTSIDE);
            s.refused("bestSpin", x, x.digest(), x.bestSpin(off, off), Checks.OUTSIDE);
            s.refused("count", x, x.digest(), x.count(off), Checks.OUTSIDE);
        }
        s.refused("pan", x, x.digest(), x.pan(), Checks.STATE);
        s.refused("plan", x, x.digest(), x.plan(), Checks.STATE);
        s.refused("letters", x, x.digest(), x.letters(0x2F2F2FL), Checks.FULL);
        s.due("the IMAGE stays", x.restore(), 24);
    }

    private void withoutAPan() {
        s.says("Terms", " Without a PAN: STATE, where it is told, behind UNKNOWN.");
        FirstPancake x = new FirstPancake();
        Checks.plan(x, "f1a1t1u1");
        int[] told = {x.warm(1, 1), x.fat(1), x.scrape(), x.fry(0), x.tried(0, 0), x.from(0), x.dogs(0), x.why(0),
            x.bestFire(0, 1, 0), x.bestSwing(0, 1, 0), x.nextTwo(0), x.image(), x.restore()};
        for (int i = 0; i < told.length; i++) {
            s.due("STATE, " + i, told[i], Checks.STATE);
        }
        int[] behind = {x.fry(1), x.tried(1, 0), x.from(1), x.dogs(1), x.why(1), x.bestFire(1, 1, 0),
            x.bestSwing(1, 1, 0), x.cell(0, 0), x.cake(0, 0), x.as(0, 0), x.thick(0, 0)};
        for (int i = 0; i < behind.length; i++) {
            s.due("UNKNOWN, " + i, behind[i], Checks.UNKNOWN);
        }
        int[] fine = {x.letters('1'), x.fault(0), x.planTold(0, 0), x.blank(), x.rounds(1, 1, 1, 1, 5, 0), x.toss(4, 5),
            x.lands(4, 5, 0, 0), x.bestSpin(20, 0), x.count(0)};
        s.dueAll("others need none", fine, 1, 1, 1, 1, 1, 1, 1, 1, 0);
        s.says("Terms", "frying (STATE: no PAN).");
        s.refused("warm", x, x.digest(), x.warm(0, 1), Checks.STATE);
        s.refused("fat", x, x.digest(), x.fat(0), Checks.STATE);
        s.refused("scrape", x, x.digest(), x.scrape(), Checks.STATE);
        s.refused("fry", x, x.digest(), x.fry(0), Checks.STATE);
        Checks.pan(x, "11/11");
        int[] with = {x.warm(0, 1), x.fat(0), x.scrape(), x.fry(0)};
        s.dueAll("with a PAN", with, 0, 0, 0, 1);
    }

    private void promise27() {
        s.says("Promise 27", "An IMAGE is kept (one; the latest): how many CAKES.");
        FirstPancake x = Checks.with("11/11", "f1a1t1u1");
        for (int cakes = 0; cakes <= 24; cakes++) {
            s.due("image() with " + cakes, x.image(), cakes);
            s.due("and again", x.image(), cakes);
            x.fry(0);
            s.due("the latest", x.restore(), cakes);
            x.fry(0);
        }
        s.due("back to the latest", x.restore(), 24);
        s.due("there is no other", x.restore(), 24);
        FirstPancake fewer = Checks.with("11/11", "f1a1t1u1");
        fewer.image();
        fewer.fry(0);
        fewer.restore();
        s.due("one with as few", fewer.image(), 0);
        s.says("Promise 27", " STATE: there is no PAN.");
        FirstPancake none = new FirstPancake();
        s.refused("no PAN", none, none.digest(), none.image(), Checks.STATE);
        Checks.tell(none, "11/11");
        s.refused("not read yet", none, none.digest(), none.image(), Checks.STATE);
        none.pan();
        s.due("read", none.image(), 0);
    }

    private void promise28() {
        s.says("Promise 28", "It goes on from the IMAGE: how many CAKES.");
        FirstPancake x = Checks.with("5s6s/4s7s", "f3a9wnt5u5", "f6a20nnt9u3");
        x.fry(0);
        x.image();
        int[] once = {x.fry(1), x.fry(0), x.cake(2, 1), x.warm(1, 1)};
        s.due("restore()", x.restore(), 1);
        int[] again = {x.fry(1), x.fry(0), x.cake(2, 1), x.warm(1, 1)};
        s.dueAll("the same once more", again, once);
        s.due("restore() again", x.restore(), 1);
        s.due("and again", x.restore(), 1);
        s.says("Promise 28", " STATE: none was kept");
        FirstPancake none = Checks.with("11/11", "f1a1t1u1");
        none.fry(0);
        s.refused("none was kept", none, none.digest(), none.restore(), Checks.STATE);
        s.due("kept", none.image(), 1);
        s.due("restore()", none.restore(), 1);
        s.due("without a PAN", new FirstPancake().restore(), Checks.STATE);
        s.says("Promise 28", ", or a PAN was read since (of the same text, too).");
        for (String text : new String[] {"5s6s/4s7s", "11/11", "1111/1111/1111/1111"}) {
            x.image();
            Checks.pan(x, text);
            s.refused("read " + text, x, x.digest(), x.restore(), Checks.STATE);
            s.due("kept since", x.image(), 0);
            s.due("restore()", x.restore(), 0);
        }
        x.fry(0);
        x.image();
        Checks.tell(x, "11/1");
        s.due("no PAN", x.pan(), Checks.STATE);
        s.due("it was not read", x.restore(), 1);
        x.letters('1');
        s.due("not read yet", x.restore(), 1);
        s.due("read", x.pan(), 4);
        s.due("read since", x.restore(), Checks.STATE);
    }

    private void promise29() {
        s.says("Promise 29", "How many: 0 CELLS, 1 PLANS, 2 CAKES, 3 letters of THE PAGE, 4 FAT, 5 BITS together, 6 how "
                + "often a PAN was read, 7 how often the two were done, 8 WORTH of all CAKES.");
        FirstPancake x = new FirstPancake();
        countsDue("new", x, 0, 0, 0, 0, 0, 0, 0, 0, 0);
        Checks.pan(x, "11/11");
        Checks.pan(x, "1s1s1s1s/1s1s1s1s/1s1s1s1s/1s1s1s1s");
        countsDue("two PANS", x, 16, 0, 0, 0, 0, 0, 2, 0, 0);
        for (int i = 0; i < 6; i++) {
            Checks.plan(x, "f1a4nwt1u1");
        }
        Checks.tell(x, "z".repeat(40));
        x.fat(9);
        countsDue("full", x, 16, 6, 0, 40, 9, 0, 2, 0, 0);
        for (int i = 0; i < 9; i++) {
            x.fry(0);
        }
        countsDue("nine PALE ones", x, 16, 6, 9, 40, 0, 0, 2, 0, 36);
        x.fry(0);
        countsDue("one that is TORN, in four CELLS", x, 16, 6, 10, 40, 0, 4, 2, 0, 38);
        for (int i = 10; i < 24; i++) {
            x.fry(0);
        }
        countsDue("24, with 9 BITS in four CELLS", x, 16, 6, 24, 40, 0, 36, 2, 0, 66);
        for (int i = 0; i < 32; i++) {
            x.nextTwo(0);
        }
        countsDue("30 times", x, 16, 6, 24, 40, 0, 36, 2, 30, 66);
        s.says("Promise 29", " OUTSIDE.");
        for (int what : new int[] {Integer.MIN_VALUE, -2, -1, 9, 10, Integer.MAX_VALUE}) {
            s.refused("count(" + what + ")", x, x.digest(), x.count(what), Checks.OUTSIDE);
        }
    }

    private void countsDue(String step, FirstPancake x, int... due) {
        int[] got = new int[9];
        for (int what = 0; what <= 8; what++) {
            got[what] = x.count(what);
        }
        s.dueAll(step, got, due);
    }

    /** The numbers by the document's order, from the calls that tell them. */
    private static List<Integer> numbers(FirstPancake x, String page) {
        List<Integer> all = new ArrayList<>();
        for (int i = 0; i < 4 * x.count(0); i++) {
            all.add(x.cell(i / 4, i % 4));
        }
        for (int p = 0; p < x.count(1); p++) {
            for (int what = 0; what <= 4; what++) {
                all.add(x.planTold(p, what));
            }
            for (int i = 0; i < x.planTold(p, 4); i++) {
                all.add(x.planTold(p, 10 + i));
            }
        }
        for (int k = 0; k < x.count(2); k++) {
            for (int told : Checks.cakeRow(x, k)) {
                all.add(told);
            }
            for (int thick : Checks.thickRow(x, k)) {
                all.add(thick);
            }
        }
        for (int p = 0; p < x.count(1) && x.count(0) > 0; p++) {
            all.add(x.tried(p, 0));
            all.add(x.tried(p, 1));
        }
        page.chars().forEach(all::add);
        for (int what = 0; what <= 8; what++) {
            all.add(x.count(what));
        }
        return all;
    }

    private void digestDue(String step, FirstPancake x, String page) {
        BigInteger h = BigInteger.valueOf(499);
        for (int number : numbers(x, page)) {
            h = h.multiply(BigInteger.valueOf(31)).add(BigInteger.valueOf(number));
        }
        s.due(step, x.digest(), h.longValue());
        s.due(step + ", again", x.digest(), h.longValue());
    }

    private void promise30() {
        wrapping();
        digestOfAll();
        digestOfThePage();
    }

    /** Of 499 and nine or ten numbers it does not wrap, of eleven it does. */
    private void wrapping() {
        s.says("Promise 30", "h is 499, then for each of these numbers, in order, 31 times h, and it (as longs, wrapping)");
        FirstPancake x = new FirstPancake();
        s.due("nine numbers", x.digest(), 13193371458174829L);
        digestDue("nine numbers", x, "");
        x.letters('~');
        digestDue("ten", x, "~");
        s.due("ten: not yet", x.digest() > 0 ? 1 : 0, 1);
        x.letters('~');
        digestDue("eleven", x, "~~");
        x.letters('~');
        digestDue("twelve", x, "~~~");
    }

    private void digestOfAll() {
        s.says("Promise 30", ": of each CELL what cell() tells for 0 to 3; of each PLAN what planTold() tells for 0 to 4, "
                + "and its SWINGS");
        for (String pan : new String[] {"12/34", "1s2s3s4s/5s6s7s8s/9s0s1s2s/3s4s5s6s"}) {
            FirstPancake x = Checks.with(pan);
            x.warm(3, 3);
            digestDue("no PLANS", x, "");
            Checks.plan(x, "f1a1t1u1");
            digestDue("a PLAN without SWINGS", x, "");
            Checks.plan(x, "f9a60neswnet60u60");
            digestDue("a PLAN with six", x, "");
        }
        s.says("Promise 30", "; of each CAKE what cake() tells for 0 to 6, THICK of each CELL");
        FirstPancake x = Checks.with("5s6s/4s7s", "f3a9wnt5u5", "f6a20nnt9u3");
        for (int i = 0; i < 24; i++) {
            digestDue(i + " CAKES", x, "");
            x.fry(i % 2);
        }
        digestDue("24 CAKES", x, "");
        x.image();
        x.restore();
        digestDue("restored", x, "");
        Checks.pan(x, "11/11");
        digestDue("no more CAKES", x, "");
    }

    private void digestOfThePage() {
        s.says("Promise 30", "; with a PAN of each PLAN what tried() tells for 0, 1");
        FirstPancake x = new FirstPancake();
        Checks.plan(x, "f3a9wnt5u5");
        Checks.plan(x, "f6a20nnt9u3");
        digestDue("without a PAN", x, "");
        Checks.pan(x, "99/99");
        digestDue("with a PAN", x, "");
        x.warm(9, 200);
        digestDue("with a PAN that is warm", x, "");
        s.says("Promise 30", "; letters of THE PAGE; what count() tells for 0 to 8.");
        for (int n = 0; n <= 40; n++) {
            String page = "~".repeat(n / 2) + "1".repeat(n - n / 2);
            FirstPancake y = Checks.with("12/34");
            Checks.tell(y, page);
            digestDue(n + " letters", y, page);
        }
    }
}
