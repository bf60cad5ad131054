/** The boundary cases of what would be (promises 16 to 22). */
final class WouldBeBoundaries {
    /** On RING 1 at 70 it is RIGHT, by MEAN 20, and leaves it at 70; on a PAN that is less warm it is PALE. */
    private static final String RIGHT_AT_70 = "f7a4t23u1";

    private final Sentences s;

    WouldBeBoundaries(Sentences s) {
        this.s = s;
    }

    void all() {
        fromThePanAsItIs();
        twelve();
        from();
        dogs();
        why();
        whyBehindSix();
        whyFatAndBits();
        whySums();
        bestFire();
        bestSwing();
        nextTwo();
        withoutPlanOrPan();
        promise16();
        promises17To19();
        promise20();
        promise21();
        thirtyTimes();
        promise22();
    }

    private static FirstPancake at70(String pan, int fat) {
        FirstPancake x = Checks.with(pan, RIGHT_AT_70);
        x.warm(7, 200);
        x.fat(fat);
        return x;
    }

    private void fromThePanAsItIs() {
        s.says("Terms", "What would be, from THE PAN as it is now: TRIED: a CAKE by a PLAN.");
        FirstPancake x = Checks.with("11/11s", RIGHT_AT_70);
        s.due("cold, without FAT", x.tried(0, 0), 5);
        x.fat(1);
        s.due("cold", x.tried(0, 0), 1);
        x.warm(7, 200);
        long before = x.digest();
        s.due("warm", x.tried(0, 0), 0);
        s.due("and again, with the same FAT", x.tried(0, 0), 0);
        s.due("it changes nothing", x.digest(), before);
        s.due("fried", x.fry(0), 0);
        s.due("the FAT is gone", x.tried(0, 0), 5);
        s.due("fried", x.fry(0), 5);
        x.fat(1);
        s.due("BITS 1, FAT 1", x.tried(0, 0), 5);
        x.fat(2);
        s.due("BITS 1, FAT 2", x.tried(0, 0), 0);
    }

    /** The twelfth counts, the thirteenth does not. */
    private void twelve() {
        s.says("Terms", " TWELVE by a PLAN, one behind the other");
        FirstPancake last = Checks.with("23s/36", "f5a8t3u1");
        last.fat(2);
        last.warm(4, 6);
        lastsDue("the twelfth is wrong", last, Checks.NONE, 1, 1, 1);
        FirstPancake behind = Checks.with("86/99", "f3a4t2u1");
        lastsDue("the thirteenth is wrong", behind, 2, 2, 0, 1);
        FirstPancake right = Checks.with("84/87", "f4a12t2u1");
        lastsDue("the thirteenth is the first that is right", right, Checks.NONE, 12, 1, 0);
        FirstPancake full = at70("11/11", 0);
        for (int i = 0; i < 24; i++) {
            full.fry(0);
        }
        s.due("where no more is fried, too", full.from(0), 0);
        s.due("where no more is fried, too", full.dogs(0), 0);
    }

    /** Of the twelfth and the thirteenth CAKE whether they are wrong (1, 0). */
    private void lastsDue(String step, FirstPancake x, int from, int dogs, int twelfth, int thirteenth) {
        long before = x.digest();
        s.due(step + ", from", x.from(0), from);
        s.due(step + ", dogs", x.dogs(0), dogs);
        s.due(step + ", nothing changes", x.digest(), before);
        int wrong = 0;
        for (int i = 0; i < 11; i++) {
            wrong += x.fry(0) == 0 ? 0 : 1;
        }
        int atTwelve = x.fry(0) == 0 ? 0 : 1;
        s.due(step + ", fried", wrong + atTwelve, dogs);
        s.due(step + ", the twelfth", atTwelve, twelfth);
        s.due(step + ", the thirteenth", x.fry(0) == 0 ? 0 : 1, thirteenth);
    }

    /** RING 2 by FIRE 8, AMOUNT 2, one TICK a side: each is RIGHT from WARMTH 140 on, and it rises from one to the next. */
    private static int coldOnes(int ticks) {
        int warmth = 0;
        for (int i = 0; i < ticks; i++) {
            warmth += 16 - warmth / 10;
        }
        int cold = 0;
        for (int i = 0; i < 12; i++) {
            warmth = Math.max(0, warmth - 4);
            warmth += 16 - warmth / 10;
            cold += (warmth - 60) / 4 < 20 ? 1 : 0;
            warmth += 16 - warmth / 10;
        }
        return cold;
    }

    private void from() {
        s.says("Terms", ": FROM: the first one (from 0) from which on all are RIGHT");
        boolean[] seen = new boolean[13];
        for (int ticks = 1; ticks <= 25; ticks++) {
            FirstPancake x = Checks.with("22/22", "f8a2t1u1");
            x.warm(8, ticks);
            int cold = coldOnes(ticks);
            seen[cold] = true;
            s.due("from behind " + ticks, x.from(0), cold < 12 ? cold : Checks.NONE);
            s.due("dogs behind " + ticks, x.dogs(0), cold);
        }
        for (int cold : new int[] {0, 1, 2, 10, 11, 12}) {
            s.due(cold + " was among them", seen[cold] ? 1 : 0, 1);
        }
        FirstPancake between = Checks.with("24/43", "f4a9wt9u5");
        between.warm(5, 6);
        s.due("0 is RIGHT, 1 is not", between.tried(0, 0), 0);
        s.due("from 2 on all are", between.from(0), 2);
        s.due("one is not", between.dogs(0), 1);
    }

    /** So much FAT, so many that are RIGHT; the others are TORN. */
    private void dogs() {
        s.says("Terms", "; DOGS: how many are not.");
        for (int fat = 0; fat <= 9; fat++) {
            FirstPancake x = at70("11/11s", fat);
            s.due("FAT " + fat, x.dogs(0), 12 - fat);
            s.due("FAT " + fat, x.from(0), Checks.NONE);
        }
        s.due("none", at70("11/11", 0).dogs(0), 0);
        s.due("all twelve", Checks.with("00/00", "f1a1t1u1").dogs(0), 12);
    }

    private void why() {
        s.says("Terms", " WHY the next one is not RIGHT: what alone would make it so");
        FirstPancake both = Checks.with("11/11s", RIGHT_AT_70);
        s.due("cold, and without FAT: nothing alone", both.why(0), 0);
        both.fat(1);
        s.due("with FAT it is the warmth", both.why(0), 1);
        both.fat(0);
        both.warm(7, 200);
        s.due("warm it is the FAT", both.why(0), 2);
        both.fat(1);
        s.due("with both it is RIGHT", both.why(0), Checks.NONE);
        s.due("nothing makes it so", Checks.with("00/00", "f1a1t1u1").why(0), 0);
    }

    private void whyBehindSix() {
        s.says("Terms", ": 1 THE PAN as warm as it is behind six by that PLAN");
        // Five are fried cold where the sixth is the first that would be RIGHT, and one step to each side.
        for (int ticks = 1; ticks <= 25; ticks++) {
            FirstPancake x = Checks.with("22/22", "f8a2t1u1");
            x.warm(8, ticks);
            int cold = coldOnes(ticks);
            int due = cold == 0 ? Checks.NONE : cold <= 6 ? 1 : 0;
            s.due(cold + " are cold", x.why(0), due);
        }
        behindSixAlone("73/56", "f3a6t2u2", 1, 0, 1, -1);
        behindSixAlone("76/69", "f2a3t3u1", 1, -1, 1, 0);
        behindSixAlone("94/39", "f1a2t3u3", 0, -1, 0, 1);
        FirstPancake spent = Checks.with("11/11s", RIGHT_AT_70);
        spent.fat(1);
        s.due("behind six the FAT would be gone, but the warmth alone is taken", spent.why(0), 1);
    }

    /** Whether the next one is RIGHT behind five, six, seven (-1: that is not looked at). */
    private void behindSixAlone(String pan, String plan, int why, int five, int six, int seven) {
        FirstPancake x = Checks.with(pan, plan);
        s.due("why on " + pan, x.why(0), why);
        int[] due = {five, six, seven};
        for (int i = 0; i < 5; i++) {
            x.fry(0);
        }
        for (int i = 0; i < 3; i++) {
            if (due[i] >= 0) {
                s.due("RIGHT on " + pan + " behind " + (5 + i), x.tried(0, 0) == 0 ? 1 : 0, due[i]);
            }
            x.fry(0);
        }
    }

    private void whyFatAndBits() {
        s.says("Terms", ", 2 FAT 9");
        FirstPancake x = at70("11/11s", 0);
        for (int bits = 0; bits <= 9; bits++) {
            x.fat(0);
            s.due("BITS " + bits + ", FAT 0", x.why(0), bits < 9 ? 2 : 0);
            x.fry(0);
        }
        s.says("Terms", ", 4 no BITS");
        FirstPancake y = at70("11/11s", 0);
        for (int bits = 0; bits <= 9; bits++) {
            for (int fat = 1; fat <= 9; fat++) {
                y.fat(fat);
                int due = fat > bits ? Checks.NONE : bits < 9 ? 6 : 4;
                s.due("BITS " + bits + ", FAT " + fat, y.why(0), due);
            }
            y.fat(0);
            y.fry(0);
        }
    }

    private void whySums() {
        s.says("Terms", " (sums of these).");
        s.due("0", Checks.with("00/00", "f1a1t1u1").why(0), 0);
        FirstPancake cold = Checks.with("11/11", RIGHT_AT_70);
        s.due("1", cold.why(0), 1);
        s.due("2", at70("11/11s", 0).why(0), 2);
        // Warm, the batter is FAST ahead of the sticky CELL.
        FirstPancake three = Checks.with("24s/26", "f2a9nt10u1");
        three.warm(2, 22);
        s.due("3", three.why(0), 3);
        FirstPancake bitty = Checks.with("52/4s5", "f3a10wt6u6", "f1a10wt1u1");
        for (int i = 0; i < 9; i++) {
            bitty.fry(1);
        }
        bitty.warm(3, 6);
        bitty.fat(1);
        s.due("5, by 9 BITS", bitty.why(0), 5);
        bitty.scrape();
        s.due("without them it is RIGHT", bitty.why(0), Checks.NONE);
        bitty.fat(0);
        s.due("and without FAT 3", bitty.why(0), 3);
        FirstPancake seven = Checks.with("52/4s5", "f3a10wt6u6");
        seven.fry(0);
        seven.fat(1);
        seven.warm(2, 1);
        s.due("7", seven.why(0), 7);
    }

    /** WORTH together of so many by a PLAN with each FIRE, each on an object of its own. */
    private static int[] worthByFire(String pan, String tail, int cakes) {
        int[] worth = new int[10];
        for (int fire = 1; fire <= 9; fire++) {
            FirstPancake x = Checks.with(pan, "f" + fire + tail);
            for (int i = 0; i < cakes; i++) {
                x.fry(0);
            }
            worth[fire] = x.count(8);
        }
        return worth;
    }

    private void bestFireDue(String pan, String tail, int cakes, int best) {
        int[] worth = worthByFire(pan, tail, cakes);
        for (int own : new int[] {1, 5, 9}) {
            FirstPancake x = Checks.with(pan, "f" + own + tail);
            long before = x.digest();
            s.due("FIRE for " + cakes + " by " + tail + " on " + pan, x.bestFire(0, cakes, 0), best);
            s.due("WORTH for " + cakes + " by " + tail + " on " + pan, x.bestFire(0, cakes, 1), worth[best]);
            s.due("it changes nothing", x.digest(), before);
        }
        for (int fire = 1; fire <= 9; fire++) {
            boolean fits = fire < best ? worth[fire] < worth[best] : worth[fire] <= worth[best];
            s.due("FIRE " + fire + " against " + best, fits ? 1 : 0, 1);
        }
    }

    private void bestFire() {
        s.says("Terms", "BEST FIRE: of 1 to 9 in place of a PLAN's that by which WORTH of the next so many together is "
                + "greatest");
        bestFireDue("99/99", "a9t40u1", 1, 1);
        bestFireDue("55/55", "a9t40u1", 1, 2);
        bestFireDue("11/11", "a1t10u1", 12, 8);
        bestFireDue("11/11", "a1t4u1", 12, 9);
        bestFireDue("11/11", "a1t8u1", 2, 9);
        bestFireDue("11/11", "a2t19u1", 1, 9);
        bestFireDue("11/11", "a4t23u1", 12, 7);
        // Its SWINGS stay: two to the north make it LOPSIDED by each FIRE, two to the east PALE.
        bestFireDue("11/11", "a20nnt20u1", 1, 1);
        bestFireDue("11/11", "a20eet20u1", 1, 1);
        bestFireDue("11/11", "a12nt25u1", 1, 9);
        s.says("Terms", "; of like ones the least. BEST SWING");
        bestFireDue("00/00", "a1t1u1", 1, 1);
        bestFireDue("00/00", "a1t1u1", 12, 1);
        bestFireDue("11/11", "a1t20u1", 1, 8);
        bestFireDue("11/11", "a2t30u1", 1, 7);
        s.due("8 and 9 are like", worthByFire("11/11", "a1t20u1", 1)[8], worthByFire("11/11", "a1t20u1", 1)[9]);
        s.due("7 and 8 are like", worthByFire("11/11", "a2t30u1", 1)[7], worthByFire("11/11", "a2t30u1", 1)[8]);
    }

    private static String rowOf(int number, int k) {
        StringBuilder row = new StringBuilder();
        for (int i = k - 1; i >= 0; i--) {
            row.append("nesw".charAt(number >> 2 * i & 3));
        }
        return row.toString();
    }

    /** The first row of the least EDGE, each tried on an object of its own. */
    private void bestSwingDue(String pan, int fire, String head, int k, String best) {
        int[] edges = new int[1 << 2 * k];
        int least = 0;
        for (int i = 0; i < edges.length; i++) {
            FirstPancake y = Checks.with(pan, head + rowOf(i, k) + "t1u1");
            y.warm(fire, 200);
            edges[i] = y.tried(0, 3);
            least = edges[i] < edges[least] ? i : least;
        }
        FirstPancake x = Checks.with(pan, head + "wwwwwwt1u1");
        x.warm(fire, 200);
        String told = "";
        for (int what = 0; what < k; what++) {
            told += "nesw".charAt(Math.floorMod(x.bestSwing(0, k, what), 4));
        }
        s.due("best of " + k + " on " + pan + " by " + head + " is " + told, told.equals(rowOf(least, k)) ? 1 : 0, 1);
        s.due("which is " + best, best.equals(rowOf(least, k)) ? 1 : 0, 1);
        s.due("EDGE", x.bestSwing(0, k, 3), edges[least]);
        s.due("the PLAN stays", x.planTold(0, 4), 6);
    }

    private void bestSwing() {
        s.says("Terms", "BEST SWING: of all rows of k SWINGS (1 to 3) in place of a PLAN's that by which EDGE of the next "
                + "one is least");
        bestSwingDue("11/11", 0, "f1a9", 1, "e");
        bestSwingDue("11/11", 0, "f1a8", 1, "n");
        bestSwingDue("11/11", 0, "f1a9", 2, "ee");
        bestSwingDue("11/11", 0, "f1a8", 2, "ne");
        bestSwingDue("11/11", 0, "f1a9", 3, "eee");
        bestSwingDue("11/11", 0, "f1a8", 3, "nee");
        // Rows that begin with the third and the fourth SWING.
        bestSwingDue("631/143", 0, "f8a17", 1, "s");
        bestSwingDue("212/617", 2, "f6a25", 2, "ss");
        bestSwingDue("967/217/261", 2, "f6a19", 2, "wn");
        bestSwingDue("0350/6475", 0, "f3a27", 3, "sss");
        bestSwingDue("4074/4216/7507/1999", 0, "f9a12", 3, "wen");
        // Where it is warm, what is FAST counts, by THE PAN as it is for each row, and by the PLAN's FIRE.
        bestSwingDue("234/432/234", 2, "f9a20", 3, "nse");
        bestSwingDue("234/432/234", 6, "f1a50", 3, "ens");
        bestSwingDue("222/222/222", 7, "f1a20", 3, "nee");
        bestSwingDue("222/222/222", 6, "f9a30", 3, "nee");
        s.says("Terms", "; of like ones the first (n, e, s, w; by the first SWING, then the second and so on).");
        bestSwingDue("111/111/111", 0, "f1a8", 1, "n");
        bestSwingDue("111/111/111", 0, "f1a8", 2, "ne");
        bestSwingDue("11/11", 0, "f1a1", 3, "nnn");
        bestSwingDue("11/11", 0, "f1a60", 3, "nee");
        bestSwingDue("11/11", 0, "f1a59", 1, "e");
    }

    private void nextTwoDue(FirstPancake x, int first, int second, int worth) {
        long before = x.digest();
        int done = x.count(7);
        s.due("for the next one", x.nextTwo(0), first);
        s.due("for the one behind it", x.nextTwo(1), second);
        s.due("WORTH", x.nextTwo(2), worth);
        s.due("it was done three times", x.count(7), done + 3);
        s.due("else nothing changes", x.digest() - before, 31 * 3);
    }

    /** CELL 1 is sticky: PLAN n comes there, the others do not. */
    private void nextTwo() {
        s.says("Terms", " NEXT TWO: of all PLANS for the next CAKE and the one behind it those by which WORTH is greatest "
                + "together");
        FirstPancake x = Checks.with("11s/11", "f1a2nt1u1", "f1a1t1u1");
        x.fat(1);
        nextTwoDue(x, 0, 1, 8);
        x.fat(2);
        nextTwoDue(x, 0, 0, 8);
        x.fat(0);
        nextTwoDue(x, 1, 1, 8);
        FirstPancake only = Checks.with("11s/11", "f1a2nt1u1");
        nextTwoDue(only, 0, 0, 4);
        FirstPancake last = Checks.with("11/11", "f1a1t1u1", "f1a1t1u1", "f1a1t1u1", "f1a1t1u1", "f1a1t1u1",
                "f7a4t23u1");
        last.warm(7, 200);
        nextTwoDue(last, 5, 5, 20);
        s.says("Terms", "; of like ones the least for the first, then for the second.");
        FirstPancake like = Checks.with("11s/11", "f1a2nt1u1", "f1a1t1u1", "f1a1t1u1", "f1a2nt1u1");
        like.fat(1);
        nextTwoDue(like, 0, 1, 8);
        FirstPancake all = Checks.with("11/11", "f1a1t1u1", "f1a1t1u1", "f1a1t1u1", "f1a1t1u1", "f1a1t1u1",
                "f1a1t1u1");
        nextTwoDue(all, 0, 0, 8);
    }

    /** Each call of the group, by its place, with arguments that are fine but for the PLAN. */
    private static int wouldBe(FirstPancake x, int call, int plan) {
        return switch (call) {
            case 0 -> x.tried(plan, 0);
            case 1 -> x.from(plan);
            case 2 -> x.dogs(plan);
            case 3 -> x.why(plan);
            case 4 -> x.bestFire(plan, 1, 0);
            default -> x.bestSwing(plan, 1, 0);
        };
    }

    private void withoutPlanOrPan() {
        s.says("Terms", "what would be (UNKNOWN: plan; STATE: no PAN).");
        FirstPancake none = new FirstPancake();
        FirstPancake noPan = new FirstPancake();
        Checks.plan(noPan, "f1a1t1u1");
        Checks.plan(noPan, "f1a1t1u1");
        FirstPancake noPlan = Checks.with("11/11");
        FirstPancake both = Checks.with("11/11", "f1a1t1u1", "f1a1t1u1");
        for (int call = 0; call <= 5; call++) {
            s.refused("no PLAN, no PAN, " + call, none, none.digest(), wouldBe(none, call, 0), Checks.UNKNOWN);
            s.refused("no PLAN, " + call, noPlan, noPlan.digest(), wouldBe(noPlan, call, 0), Checks.UNKNOWN);
            for (int plan : new int[] {Integer.MIN_VALUE, -1, 2, 5, 6, Integer.MAX_VALUE}) {
                s.refused("no PAN, " + call, noPan, noPan.digest(), wouldBe(noPan, call, plan), Checks.UNKNOWN);
                s.refused("both, " + call, both, both.digest(), wouldBe(both, call, plan), Checks.UNKNOWN);
            }
            for (int plan = 0; plan <= 1; plan++) {
                s.refused("no PAN, " + call, noPan, noPan.digest(), wouldBe(noPan, call, plan), Checks.STATE);
                s.due("both, " + call, wouldBe(both, call, plan) >= Checks.NONE ? 1 : 0, 1);
            }
        }
    }

    private void promise16() {
        s.says("Promise 16", "TRIED: what as in cake().");
        FirstPancake x = Checks.with("53s/6s3", "f4a9wt5u6", "f6a20nest9u3");
        x.warm(3, 6);
        for (int plan = 0; plan <= 1; plan++) {
            int[] tried = new int[7];
            for (int what = 0; what <= 6; what++) {
                tried[what] = x.tried(plan, what);
            }
            x.fry(plan);
            s.dueAll("PLAN " + plan, tried, Checks.cakeRow(x, plan));
        }
        s.says("Promise 16", " UNKNOWN; STATE; OUTSIDE.");
        for (int what : new int[] {Integer.MIN_VALUE, -1, 7, 8, Integer.MAX_VALUE}) {
            s.refused("tried(0, " + what + ")", x, x.digest(), x.tried(0, what), Checks.OUTSIDE);
            s.refused("UNKNOWN is told ahead", x, x.digest(), x.tried(2, what), Checks.UNKNOWN);
        }
        FirstPancake noPan = new FirstPancake();
        Checks.plan(noPan, "f1a1t1u1");
        s.due("STATE is told ahead of OUTSIDE", noPan.tried(0, 7), Checks.STATE);
        s.due("UNKNOWN is told ahead of STATE", noPan.tried(1, 7), Checks.UNKNOWN);
    }

    private void promises17To19() {
        s.says("Promise 17", "FROM; NONE: the last one is not RIGHT.");
        s.due("all are", at70("11/11", 0).from(0), 0);
        FirstPancake eleven = Checks.with("22/22", "f8a2t1u1");
        eleven.warm(8, 6);
        s.due("the last one alone is", eleven.from(0), 11);
        FirstPancake twelve = Checks.with("22/22", "f8a2t1u1");
        twelve.warm(8, 5);
        s.due("not even the last one", twelve.from(0), Checks.NONE);
        FirstPancake last = Checks.with("23s/36", "f5a8t3u1");
        last.fat(2);
        last.warm(4, 6);
        s.due("the last one alone is not", last.from(0), Checks.NONE);
        s.says("Promise 17", " UNKNOWN; STATE.");
        refusedBy(1);
        s.says("Promise 18", "DOGS.");
        s.due("0", at70("11/11", 0).dogs(0), 0);
        s.due("1", last.dogs(0), 1);
        s.due("11", eleven.dogs(0), 11);
        s.due("12", twelve.dogs(0), 12);
        s.says("Promise 18", " UNKNOWN; STATE.");
        refusedBy(2);
        s.says("Promise 19", "WHY; NONE: it is RIGHT.");
        s.due("RIGHT", at70("11/11s", 1).why(0), Checks.NONE);
        s.due("TORN", at70("11/11s", 0).why(0), 2);
        FirstPancake pale = Checks.with("11/11", "f7a4t22u1", "f7a4t23u1", "f7a4eeeeeet57u1", "f7a4eeeeeet58u1");
        pale.warm(7, 200);
        s.due("MEAN 19, and no warmer behind six", pale.why(0), 0);
        s.due("MEAN 20", pale.why(1), Checks.NONE);
        s.due("MEAN 60", pale.why(2), Checks.NONE);
        s.due("MEAN 61", pale.why(3), 0);
        s.says("Promise 19", " UNKNOWN; STATE.");
        refusedBy(3);
    }

    private void refusedBy(int call) {
        FirstPancake x = Checks.with("11/11", "f1a1t1u1");
        s.refused("PLAN 1", x, x.digest(), wouldBe(x, call, 1), Checks.UNKNOWN);
        s.refused("PLAN -1", x, x.digest(), wouldBe(x, call, -1), Checks.UNKNOWN);
        FirstPancake noPan = new FirstPancake();
        s.refused("no PLAN, no PAN", noPan, noPan.digest(), wouldBe(noPan, call, 0), Checks.UNKNOWN);
        Checks.plan(noPan, "f1a1t1u1");
        s.refused("no PAN", noPan, noPan.digest(), wouldBe(noPan, call, 0), Checks.STATE);
        s.refused("PLAN 1, no PAN", noPan, noPan.digest(), wouldBe(noPan, call, 1), Checks.UNKNOWN);
    }

    private void promise20() {
        s.says("Promise 20", "BEST FIRE: what = 0 FIRE, 1 WORTH together then.");
        FirstPancake x = Checks.with("00/00", "f5a1t1u1");
        for (int cakes = 1; cakes <= 12; cakes++) {
            s.due("FIRE for " + cakes, x.bestFire(0, cakes, 0), 1);
            s.due("WORTH for " + cakes, x.bestFire(0, cakes, 1), 4 * cakes);
        }
        s.due("RIGHT by 7, 8 and 9", at70("11/11", 0).bestFire(0, 1, 0), 7);
        s.due("RIGHT", at70("11/11", 0).bestFire(0, 12, 1), 120);
        s.says("Promise 20", " UNKNOWN; STATE; OUTSIDE: cakes (1 to 12), what.");
        for (int wrong : new int[] {Integer.MIN_VALUE, -1, 0, 13, 14, Integer.MAX_VALUE}) {
            s.refused("cakes " + wrong, x, x.digest(), x.bestFire(0, wrong, 0), Checks.OUTSIDE);
            s.refused("UNKNOWN is told ahead", x, x.digest(), x.bestFire(1, wrong, 0), Checks.UNKNOWN);
        }
        for (int wrong : new int[] {Integer.MIN_VALUE, -1, 2, 3, Integer.MAX_VALUE}) {
            s.refused("what " + wrong, x, x.digest(), x.bestFire(0, 1, wrong), Checks.OUTSIDE);
            s.refused("UNKNOWN is told ahead", x, x.digest(), x.bestFire(-1, 1, wrong), Checks.UNKNOWN);
        }
        FirstPancake noPan = new FirstPancake();
        Checks.plan(noPan, "f1a1t1u1");
        s.due("STATE is told ahead of OUTSIDE", noPan.bestFire(0, 0, 0), Checks.STATE);
        s.due("STATE is told ahead of OUTSIDE", noPan.bestFire(0, 1, 2), Checks.STATE);
        s.due("UNKNOWN is told ahead of STATE", noPan.bestFire(1, 0, 2), Checks.UNKNOWN);
    }

    private void promise21() {
        s.says("Promise 21", "BEST SWING: what = 0 to 2 the so-manieth SWING (NONE: there is none), 3 EDGE then.");
        int[][] due = {{1, -1, -1, 0}, {1, 1, -1, 0}, {1, 1, 1, 0}};
        for (int k = 1; k <= 3; k++) {
            FirstPancake x = Checks.with("11/11", "f1a9nt1u1");
            for (int what = 0; what <= 3; what++) {
                s.due("bestSwing(0, " + k + ", " + what + ")", x.bestSwing(0, k, what), due[k - 1][what]);
                s.due("done, where there is none, too", x.count(7), what + 1);
            }
        }
        FirstPancake edge = Checks.with("111/111/111", "f1a9nt1u1");
        s.due("4 and 5 by each SWING", edge.bestSwing(0, 1, 3), 1);
        s.says("Promise 21", " UNKNOWN; STATE; OUTSIDE: k, what");
        FirstPancake x = Checks.with("11/11", "f1a9nt1u1");
        for (int wrong : new int[] {Integer.MIN_VALUE, -1, 0, 4, 5, Integer.MAX_VALUE}) {
            s.refused("k " + wrong, x, x.digest(), x.bestSwing(0, wrong, 0), Checks.OUTSIDE);
            s.refused("UNKNOWN is told ahead", x, x.digest(), x.bestSwing(1, wrong, 0), Checks.UNKNOWN);
        }
        for (int wrong : new int[] {Integer.MIN_VALUE, -1, 4, 5, Integer.MAX_VALUE}) {
            s.refused("what " + wrong, x, x.digest(), x.bestSwing(0, 1, wrong), Checks.OUTSIDE);
            s.refused("UNKNOWN is told ahead", x, x.digest(), x.bestSwing(-1, 1, wrong), Checks.UNKNOWN);
        }
        FirstPancake noPan = new FirstPancake();
        Checks.plan(noPan, "f1a1t1u1");
        s.due("STATE is told ahead of OUTSIDE", noPan.bestSwing(0, 0, 0), Checks.STATE);
        s.due("STATE is told ahead of OUTSIDE", noPan.bestSwing(0, 1, 4), Checks.STATE);
        s.due("UNKNOWN is told ahead of STATE", noPan.bestSwing(1, 0, 4), Checks.UNKNOWN);
    }

    private void thirtyTimes() {
        s.says("Promise 21", "; STATE: bestSwing(), nextTwo() were done 30 times together ever (it counts on, whatever is "
                + "read or restored).");
        for (int swings : new int[] {0, 1, 15, 29, 30}) {
            FirstPancake x = Checks.with("11/11", "f1a1t1u1");
            x.image();
            for (int i = 0; i < 30; i++) {
                refusedAreNotDone(x, i);
                int got = i < swings ? x.bestSwing(0, 1, 0) : x.nextTwo(0);
                s.due("the one behind " + i, got, 0);
                s.due("count(7)", x.count(7), i + 1);
            }
            noMore(x, "behind 30");
            s.due("restored", x.restore(), 0);
            noMore(x, "restored");
            Checks.plan(x, "f1a1t1u1");
            noMore(x, "another PLAN");
            Checks.pan(x, "11/11");
            noMore(x, "another PAN");
            s.due("OUTSIDE is told ahead", x.bestSwing(0, 4, 0), Checks.OUTSIDE);
            s.due("OUTSIDE is told ahead", x.bestSwing(0, 1, 4), Checks.OUTSIDE);
            s.due("UNKNOWN is told ahead", x.bestSwing(2, 1, 0), Checks.UNKNOWN);
            s.due("OUTSIDE is told ahead", x.nextTwo(3), Checks.OUTSIDE);
            s.due("others go on", x.bestFire(0, 1, 0), 1);
        }
    }

    private void refusedAreNotDone(FirstPancake x, int done) {
        x.bestSwing(0, 4, 0);
        x.bestSwing(1, 1, 0);
        x.nextTwo(3);
        s.due("refused ones are not done", x.count(7), done);
    }

    private void noMore(FirstPancake x, String step) {
        s.refused(step + ", bestSwing", x, x.digest(), x.bestSwing(0, 1, 0), Checks.STATE);
        s.refused(step + ", bestSwing of what is none", x, x.digest(), x.bestSwing(0, 1, 2), Checks.STATE);
        s.refused(step + ", nextTwo", x, x.digest(), x.nextTwo(0), Checks.STATE);
        s.due(step + ", count(7)", x.count(7), 30);
    }

    private void promise22() {
        s.says("Promise 22", "NEXT TWO: what = 0, 1 the PLANS, 2 WORTH together.");
        FirstPancake x = Checks.with("11s/11", "f1a2nt1u1", "f1a1t1u1");
        x.fat(1);
        s.due("what 0", x.nextTwo(0), 0);
        s.due("what 1", x.nextTwo(1), 1);
        s.due("what 2", x.nextTwo(2), 8);
        s.says("Promise 22", " STATE: no PAN, no PLANS");
        FirstPancake none = new FirstPancake();
        s.refused("neither", none, none.digest(), none.nextTwo(0), Checks.STATE);
        s.due("STATE is told ahead of OUTSIDE", none.nextTwo(3), Checks.STATE);
        FirstPancake noPan = new FirstPancake();
        Checks.plan(noPan, "f1a1t1u1");
        s.refused("no PAN", noPan, noPan.digest(), noPan.nextTwo(0), Checks.STATE);
        s.due("STATE is told ahead of OUTSIDE", noPan.nextTwo(-1), Checks.STATE);
        FirstPancake noPlans = Checks.with("11/11");
        s.refused("no PLANS", noPlans, noPlans.digest(), noPlans.nextTwo(0), Checks.STATE);
        s.due("STATE is told ahead of OUTSIDE", noPlans.nextTwo(3), Checks.STATE);
        Checks.plan(noPlans, "f1a1t1u1");
        s.due("one PLAN", noPlans.nextTwo(2), 8);
        s.says("Promise 22", "; OUTSIDE; STATE, as bestSwing().");
        for (int wrong : new int[] {Integer.MIN_VALUE, -1, 3, 4, Integer.MAX_VALUE}) {
            s.refused("what " + wrong, x, x.digest(), x.nextTwo(wrong), Checks.OUTSIDE);
        }
        for (int done = x.count(7); done < 30; done++) {
            s.due("the one behind " + done, x.nextTwo(2), 8);
        }
        s.refused("the 31st", x, x.digest(), x.nextTwo(2), Checks.STATE);
        s.refused("OUTSIDE is told ahead", x, x.digest(), x.nextTwo(3), Checks.OUTSIDE);
    }
}
