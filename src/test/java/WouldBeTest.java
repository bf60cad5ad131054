/** Promises 16 to 22: what would be. Searches are held against the same done by hand, with one object a try. */
public final class WouldBeTest {
    private static final Checks CHECKS = new Checks();
    private static final String[] PANS = {"24/43", "53/63", "46/12", "345/2s46/531s", "22s/35/41"};

    private static void due(String call, long got, long want) {
        CHECKS.due(call, got, want);
    }

    /** A PAN that was used: FAT, warmth, and CAKES fried by the first PLAN. */
    private static FirstPancake used(String pan, int fat, int fire, int ticks, String... plans) {
        FirstPancake x = Checks.with(pan, plans);
        x.fat(fat);
        x.warm(fire, ticks);
        return x;
    }

    private static void promise16Tried() {
        for (String pan : PANS) {
            FirstPancake x = used(pan, 1, 3, 6, "f4a9wt5u6", "f6a20nest9u3");
            for (int round = 0; round < 3; round++) {
                for (int plan = 0; plan < 2; plan++) {
                    long before = x.digest();
                    int[] row = new int[7];
                    for (int what = 0; what < 7; what++) {
                        row[what] = x.tried(plan, what);
                    }
                    due("tried changes nothing", x.digest(), before);
                    x.fry(plan);
                    CHECKS.dueAll("tried as fried", row, Checks.cakeRow(x, x.count(2) - 1));
                }
            }
        }
        FirstPancake full = Checks.with("99/99", "f9a3t1u1");
        due("MEAN", full.tried(0, 1), 4);
        for (int i = 0; i < 24; i++) {
            full.fry(0);
        }
        due("with 24 CAKES, too", full.tried(0, 0), 3);
        due("what 7", full.tried(0, 7), Checks.OUTSIDE);
        due("what -1", full.tried(0, -1), Checks.OUTSIDE);
    }

    private static void refusalsDue(String call, int none, int noPan, int wrongPlan, int wrongWithoutPan) {
        due(call + " without PLAN and PAN", none, Checks.UNKNOWN);
        due(call + " without a PAN", noPan, Checks.STATE);
        due(call + " of a PLAN that is none", wrongPlan, Checks.UNKNOWN);
        due(call + " of none without a PAN", wrongWithoutPan, Checks.UNKNOWN);
    }

    private static void refusals() {
        FirstPancake none = new FirstPancake();
        FirstPancake noPan = new FirstPancake();
        Checks.plan(noPan, "f1a1t1u1");
        FirstPancake x = Checks.with("11/11", "f1a1t1u1");
        refusalsDue("tried", none.tried(0, 7), noPan.tried(0, 7), x.tried(1, 7), noPan.tried(-1, 0));
        refusalsDue("from", none.from(0), noPan.from(0), x.from(1), noPan.from(-1));
        refusalsDue("dogs", none.dogs(0), noPan.dogs(0), x.dogs(1), noPan.dogs(-1));
        refusalsDue("why", none.why(0), noPan.why(0), x.why(1), noPan.why(-1));
        refusalsDue("bestFire", none.bestFire(0, 0, 0), noPan.bestFire(0, 0, 0), x.bestFire(1, 0, 0),
                noPan.bestFire(-1, 1, 1));
        refusalsDue("bestSwing", none.bestSwing(0, 0, 0), noPan.bestSwing(0, 0, 0), x.bestSwing(6, 0, 0),
                noPan.bestSwing(Integer.MIN_VALUE, 1, 1));
        due("a refusal is not done", x.count(7) + noPan.count(7), 0);
    }

    private static void fromAndDogsDue(FirstPancake x, int from, int dogs) {
        long before = x.digest();
        due("from", x.from(0), from);
        due("dogs", x.dogs(0), dogs);
        due("they change nothing", x.digest(), before);
        int wrong = 0;
        int last = -1;
        for (int i = 0; i < 12; i++) {
            if (x.fry(0) != 0) {
                wrong++;
                last = i;
            }
        }
        due("dogs as fried", wrong, dogs);
        due("from as fried", last == 11 ? Checks.NONE : last + 1, from);
    }

    private static void promise17And18FromAndDogs() {
        fromAndDogsDue(used("24/43", 0, 5, 6, "f4a9wt9u5"), 2, 1);
        fromAndDogsDue(used("46/12", 0, 1, 6, "f5a4t9u1"), 1, 1);
        fromAndDogsDue(used("16/1s6", 0, 3, 1, "f3a3t1u2"), 11, 11);
        fromAndDogsDue(used("23s/36", 2, 4, 6, "f5a8t3u1"), Checks.NONE, 1);
        fromAndDogsDue(used("12/31", 0, 5, 6, "f6a2t6u1"), Checks.NONE, 12);
        // The thirteenth would be wrong here, and right there.
        fromAndDogsDue(used("86/99", 0, 0, 1, "f3a4t2u1"), 2, 2);
        fromAndDogsDue(used("84/87", 0, 0, 1, "f4a12t2u1"), Checks.NONE, 12);
        fromAndDogsDue(used("55/55", 9, 3, 200, "f3a3t2u9"), 0, 0);
    }

    private static void promise19Why() {
        due("RIGHT", used("55/55", 0, 3, 200, "f3a3t2u9").why(0), Checks.NONE);
        due("nothing alone", used("12/31", 0, 5, 6, "f6a2t6u1").why(0), 0);
        due("1: it is not warm yet", used("66/66", 0, 0, 1, "f3a3t2u9").why(0), 1);
        due("behind six, not five", used("73/56", 0, 0, 1, "f3a6t2u2").why(0), 1);
        due("behind six, not seven", used("76/69", 0, 0, 1, "f2a3t3u1").why(0), 1);
        due("behind seven alone", used("94/39", 0, 0, 1, "f1a2t3u3").why(0), 0);
        due("2: FAT", used("55/24s", 0, 3, 6, "f4a4t6u9").why(0), 2);
        FirstPancake bits = Checks.with("44/54s", "f3a7t9u4");
        for (int i = 0; i < 2; i++) {
            bits.fry(0);
        }
        bits.fat(1);
        due("TORN, but for FAT or BITS", bits.tried(0, 0), 5);
        due("2 and 4", bits.why(0), 6);
        for (int i = 0; i < 9; i++) {
            bits.fry(0);
        }
        bits.fat(9);
        due("BITS", bits.cell(3, 3), 9);
        due("FAT 9 is not above BITS 9", bits.why(0), 4);
        bits.fat(0);
        due("without FAT no BITS are too many, too", bits.why(0), 0);
        FirstPancake all = Checks.with("52/4s5", "f3a10wt6u6");
        all.fry(0);
        all.fat(1);
        all.warm(2, 1);
        long before = all.digest();
        due("7: FAST ahead of the sticky one, too", all.why(0), 7);
        due("it changes nothing", all.digest(), before);
    }

    /** WORTH of the next so many by a PLAN, fried for good. */
    private static int worthOf(String pan, int fat, int fire, int ticks, int cakes, String... plans) {
        FirstPancake x = used(pan, fat, fire, ticks, plans);
        for (int i = 0; i < cakes; i++) {
            x.fry(Math.min(i, plans.length - 1));
        }
        return x.count(8);
    }

    private static void promise20BestFire() {
        for (String pan : PANS) {
            for (int cakes : new int[] {1, 2, 5, 12}) {
                int best = 0;
                int most = -1;
                for (int fire = 1; fire <= 9; fire++) {
                    int worth = worthOf(pan, 3, 2, 9, cakes, "f" + fire + "a7wnt4u6");
                    if (worth > most) {
                        most = worth;
                        best = fire;
                    }
                }
                FirstPancake x = used(pan, 3, 2, 9, "f5a7wnt4u6");
                long before = x.digest();
                due("bestFire(0, " + cakes + ", 0) on " + pan, x.bestFire(0, cakes, 0), best);
                due("bestFire(0, " + cakes + ", 1) on " + pan, x.bestFire(0, cakes, 1), most);
                due("it changes nothing", x.digest(), before);
            }
        }
        FirstPancake weak = Checks.with("11/11", "f1a2t30u1");
        due("the greatest FIRE is tried", weak.bestFire(0, 1, 0), 7);
        due("the greatest FIRE is tried", Checks.with("11/11", "f1a2t19u1").bestFire(0, 1, 0), 9);
        FirstPancake cold = Checks.with("00/00", "f5a1t1u1");
        due("of like ones the least", cold.bestFire(0, 12, 0), 1);
        due("twelve PALE ones", cold.bestFire(0, 12, 1), 48);
        due("cakes 0", cold.bestFire(0, 0, 0), Checks.OUTSIDE);
        due("cakes 13", cold.bestFire(0, 13, 0), Checks.OUTSIDE);
        due("what 2", cold.bestFire(0, 1, 2), Checks.OUTSIDE);
        due("what -1", cold.bestFire(0, 1, -1), Checks.OUTSIDE);
        due("it is not one of the two", cold.count(7), 0);
    }

    private static String rowOf(int number, int k) {
        StringBuilder row = new StringBuilder();
        for (int i = 0; i < k; i++) {
            row.insert(0, "nesw".charAt(number % 4));
            number /= 4;
        }
        return row.toString();
    }

    private static void promise21BestSwing() {
        for (String pan : PANS) {
            for (int k = 1; k <= 3; k++) {
                String best = "";
                int least = Integer.MAX_VALUE;
                for (int i = 0; i < Math.pow(4, k); i++) {
                    FirstPancake y = used(pan, 3, 2, 9, "f5a33" + rowOf(i, k) + "t4u6");
                    if (y.tried(0, 3) < least) {
                        least = y.tried(0, 3);
                        best = rowOf(i, k);
                    }
                }
                FirstPancake x = used(pan, 3, 2, 9, "f5a33nnnnt4u6");
                for (int what = 0; what < 3; what++) {
                    int due = what < k ? "nesw".indexOf(best.charAt(what)) : Checks.NONE;
                    due("bestSwing(0, " + k + ", " + what + ") on " + pan, x.bestSwing(0, k, what), due);
                }
                due("bestSwing(0, " + k + ", 3) on " + pan, x.bestSwing(0, k, 3), least);
                due("the PLAN stays", x.planTold(0, 4), 4);
            }
        }
        FirstPancake one = Checks.with("11/11", "f1a1t1u1");
        due("of like ones the first", one.bestSwing(0, 3, 0), 0);
        due("of like ones the first", one.bestSwing(0, 3, 2), 0);
        for (int[] wrong : new int[][] {{0, 0}, {4, 0}, {-1, 0}, {1, 4}, {1, -1}, {Integer.MAX_VALUE, 0}}) {
            due("bestSwing(0, " + wrong[0] + ", " + wrong[1] + ")", one.bestSwing(0, wrong[0], wrong[1]),
                    Checks.OUTSIDE);
        }
        due("refusals are not done", one.count(7), 2);
    }

    private static void promise21ThirtyTimes() {
        FirstPancake x = Checks.with("11/11", "f1a1t1u1");
        x.image();
        for (int i = 0; i < 15; i++) {
            due("bestSwing", x.bestSwing(0, 1, 2), Checks.NONE);
            due("nextTwo", x.nextTwo(2), 8);
            x.restore();
            due("count(7)", x.count(7), 2 * i + 2);
        }
        due("the 31st", x.bestSwing(0, 1, 0), Checks.STATE);
        due("the 31st", x.nextTwo(0), Checks.STATE);
        due("OUTSIDE ahead of that", x.bestSwing(0, 4, 0), Checks.OUTSIDE);
        due("OUTSIDE ahead of that", x.nextTwo(3), Checks.OUTSIDE);
        due("UNKNOWN ahead of that", x.bestSwing(1, 1, 0), Checks.UNKNOWN);
        Checks.pan(x, "12/34");
        due("it counts on", x.nextTwo(0), Checks.STATE);
        due("30", x.count(7), 30);
        due("others go on", x.bestFire(0, 1, 0), 1);
    }

    private static void promise22NextTwo() {
        String[] plans = {"f2a30nnt2u2", "f5a7wnt4u6", "f9a3t9u9", "f3a3t2u9", "f6a8nt3u2", "f1a1t1u1"};
        for (String pan : PANS) {
            for (int fat = 0; fat < 3; fat++) {
                int[] best = {-1, -1, -1};
                for (int p = 0; p < 6; p++) {
                    for (int q = 0; q < 6; q++) {
                        int worth = worthOf(pan, fat, 2, 7, 2, plans[p], plans[q]);
                        if (worth > best[2]) {
                            best = new int[] {p, q, worth};
                        }
                    }
                }
                FirstPancake x = used(pan, fat, 2, 7, plans);
                int cakes = x.count(2);
                for (int what = 0; what < 3; what++) {
                    due("nextTwo(" + what + ") on " + pan, x.nextTwo(what), best[what]);
                }
                due("it fries none", x.count(2), cakes);
            }
        }
        FirstPancake noPlans = new FirstPancake();
        due("no PAN, no PLANS", noPlans.nextTwo(5), Checks.STATE);
        Checks.pan(noPlans, "11/11");
        due("no PLANS", noPlans.nextTwo(0), Checks.STATE);
        FirstPancake noPan = new FirstPancake();
        Checks.plan(noPan, "f1a1t1u1");
        due("no PAN", noPan.nextTwo(0), Checks.STATE);
        Checks.pan(noPan, "11/11");
        due("what -1", noPan.nextTwo(-1), Checks.OUTSIDE);
        due("what 3", noPan.nextTwo(3), Checks.OUTSIDE);
        due("refusals are not done", noPan.count(7), 0);
    }

    public static void main(String[] args) {
        promise16Tried();
        refusals();
        promise17And18FromAndDogs();
        promise19Why();
        promise20BestFire();
        promise21BestSwing();
        promise21ThirtyTimes();
        promise22NextTwo();
        CHECKS.end();
    }
}
