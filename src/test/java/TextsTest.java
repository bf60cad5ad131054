/** Promises 1 to 8: a new object, THE PAGE, what is read from it, what is told of PLANS and CELLS. */
public final class TextsTest {
    private static final Checks CHECKS = new Checks();

    private static void due(String call, long got, long want) {
        CHECKS.due(call, got, want);
    }

    private static void promise1NewObject() {
        FirstPancake x = new FirstPancake();
        for (int what = 0; what <= 8; what++) {
            due("new: count(" + what + ")", x.count(what), 0);
        }
        due("new: cell", x.cell(0, 0), Checks.UNKNOWN);
        due("new: planTold", x.planTold(0, 0), Checks.UNKNOWN);
        due("new: cake", x.cake(0, 0), Checks.UNKNOWN);
        due("new: image", x.image(), Checks.STATE);
        due("new: restore", x.restore(), Checks.STATE);
        due("two objects share nothing", Checks.plan(new FirstPancake(), "f1a1t1u1"), 0);
        due("two objects share nothing", new FirstPancake().count(1), 0);
    }

    private static void promise2Letters() {
        FirstPancake x = new FirstPancake();
        due("letters(0)", x.letters(0), 0);
        due("one letter", x.letters('a'), 1);
        due("eight letters", x.letters(Checks.word("abcdefgh")), 9);
        due("byte 126", x.letters(126L << 8 | 1), 11);
        due("byte 127", x.letters(127), Checks.OUTSIDE);
        due("byte 128", x.letters(128), Checks.OUTSIDE);
        due("byte 255 as the last", x.letters(-1L << 56 | Checks.word("abcdefg")), Checks.OUTSIDE);
        due("all bits", x.letters(-1), Checks.OUTSIDE);
        due("least long", x.letters(Long.MIN_VALUE), Checks.OUTSIDE);
        due("a letter behind a 0", x.letters('a' | 'b' << 16), Checks.OUTSIDE);
        due("a 0 ahead", x.letters('a' << 8), Checks.OUTSIDE);
        due("the last byte alone", x.letters(97L << 56), Checks.OUTSIDE);
        due("refusals change nothing", x.count(3), 11);
        Checks.tell(x, "abcdefghabcdefghabcdefgh");
        due("35 letters", x.letters(0), 35);
        due("above 40", x.letters(Checks.word("abcdef")), Checks.FULL);
        due("FULL changes nothing", x.count(3), 35);
        due("40 letters", x.letters(Checks.word("abcde")), 40);
        due("the 41st", x.letters('a'), Checks.FULL);
        due("none more is not above 40", x.letters(0), 40);
        due("OUTSIDE ahead of FULL", x.letters(127), Checks.OUTSIDE);
    }

    private static void promise3Blank() {
        FirstPancake x = new FirstPancake();
        due("blank, empty", x.blank(), 0);
        Checks.tell(x, "12/34");
        due("blank", x.blank(), 5);
        due("empty then", x.count(3), 0);
        due("blank again", x.blank(), 0);
        due("nothing is left of it", Checks.pan(x, "123/456"), 6);
    }

    private static void faultDue(int sort, String text, int place) {
        FirstPancake x = new FirstPancake();
        Checks.tell(x, text);
        due("fault(" + sort + ") of " + text, x.fault(sort), place);
        due("fault changes nothing", x.count(3), text.length());
    }

    private static void promise4FaultOfPans() {
        String[] none = {"", "1", "0s", "12/", "12/34", "12s/3s4s", "1234/1234/1234/1234", "123/4s", "12/34/56/78s",
            "1s2s3s4s/1s2s3s4s/1s2s3s4s/1s2s3s4s"};
        for (String text : none) {
            faultDue(0, text, text.length());
        }
        faultDue(0, "s1", 0);
        faultDue(0, "/12", 0);
        faultDue(0, "f1", 0);
        faultDue(0, "1/", 1);
        faultDue(0, "1S", 1);
        faultDue(0, "1ss", 2);
        faultDue(0, "12//34", 3);
        faultDue(0, "12/s", 3);
        faultDue(0, "12345", 4);
        faultDue(0, "1s2s3s4s5", 8);
        faultDue(0, "12/345", 5);
        faultDue(0, "12/3/4", 4);
        faultDue(0, "123/45/6", 6);
        faultDue(0, "123/456/45/", 10);
        faultDue(0, "12/34/56/78/", 11);
        faultDue(0, "12/34/56/789", 11);
        faultDue(0, "12/34 ", 5);
        faultDue(0, "12:34", 2);
    }

    private static void promise4FaultOfPlans() {
        String[] none = {"", "f", "f9", "f1a", "f1a7", "f1a60", "f1a59", "f1a1nesw", "f9a60nnnnnnt60u60", "f1a1t",
            "f1a1t1u", "f1a1t1u1", "f1a1st10u6"};
        for (String text : none) {
            faultDue(1, text, text.length());
        }
        faultDue(1, "1", 0);
        faultDue(1, "F", 0);
        faultDue(1, "ff", 1);
        faultDue(1, "f0", 1);
        faultDue(1, "fa", 1);
        faultDue(1, "f10", 2);
        faultDue(1, "f1t", 2);
        faultDue(1, "f1n", 2);
        faultDue(1, "f1a0", 3);
        faultDue(1, "f1an", 3);
        faultDue(1, "f1at", 3);
        faultDue(1, "f1a61", 4);
        faultDue(1, "f1a70", 4);
        faultDue(1, "f1a600", 5);
        faultDue(1, "f1a1u", 4);
        faultDue(1, "f1a1a", 4);
        faultDue(1, "f1a1n1", 5);
        faultDue(1, "f1a1nnnnnnn", 10);
        faultDue(1, "f1a1nnnnnn1", 10);
        faultDue(1, "f1a1tu", 5);
        faultDue(1, "f1a1t0", 5);
        faultDue(1, "f1a1t61", 6);
        faultDue(1, "f1a1t1n", 6);
        faultDue(1, "f1a1t1t", 6);
        faultDue(1, "f1a1t1u0", 7);
        faultDue(1, "f1a1t1u1u", 8);
        faultDue(1, "f1a1t1u1n", 8);
        faultDue(1, "f1a1t1u601", 9);
        faultDue(2, "12/34", Checks.OUTSIDE);
        faultDue(-1, "12/34", Checks.OUTSIDE);
        faultDue(Integer.MIN_VALUE, "", Checks.OUTSIDE);
    }

    private static void promise5Pan() {
        FirstPancake x = new FirstPancake();
        String[] texts = {"12/34", "12/34/56", "12/34/56/78", "123/456", "1234/5678", "1s234/5678/9012/3456s"};
        int[] cells = {4, 6, 8, 6, 8, 16};
        for (int i = 0; i < texts.length; i++) {
            due("pan() of " + texts[i], Checks.pan(x, texts[i]), cells[i]);
            due("the page is empty then", x.count(3), 0);
            due("CELLS", x.count(0), cells[i]);
            due("how often", x.count(6), i + 1);
        }
        String[] wrong = {"", "1", "12", "12/", "12/3", "12/34/", "123/45", "12/34x", "f1a1t1u1", "12/34/5"};
        for (String text : wrong) {
            Checks.tell(x, text);
            due("pan() of " + text, x.pan(), Checks.STATE);
            due("the page stays", x.blank(), text.length());
        }
        due("the PAN stays", x.count(0), 16);
        due("not read", x.count(6), 6);
    }

    private static void promise5AnotherPan() {
        FirstPancake x = Checks.with("9s9s/9s9s", "f9a3nt9u9");
        x.fry(0);
        x.fat(7);
        due("BITS before", x.count(5), 2);
        due("another one", Checks.pan(x, "9s9s/9s9s"), 4);
        due("CAKES are gone", x.count(2), 0);
        due("FAT is 0", x.count(4), 0);
        due("BITS are 0", x.count(5), 0);
        CHECKS.dueAll("WARMTH is 0", Checks.warmthRow(x), 0, 0, 0, 0);
        due("PLANS stay", x.count(1), 1);
        due("a smaller one", Checks.pan(x, "1234/1234/1234/1234"), 16);
        due("a smaller one", Checks.pan(x, "56/78"), 4);
        due("its last RING", x.cell(3, 0), 8);
        due("no further CELL", x.cell(4, 0), Checks.UNKNOWN);
    }

    private static void promise6Plan() {
        FirstPancake x = new FirstPancake();
        String[] wrong = {"", "f1", "f1a1t1", "f1a1t1u", "f1a1t1u61", "12/34", "f1a61t1u1", "a1f1t1u1", "f1a1t1u1x"};
        for (String text : wrong) {
            Checks.tell(x, text);
            due("plan() of " + text, x.plan(), Checks.STATE);
            due("the page stays", x.blank(), text.length());
        }
        for (int i = 0; i < 6; i++) {
            due("plan " + i, Checks.plan(x, "f" + (i + 1) + "a1t1u1"), i);
            due("the page is empty then", x.count(3), 0);
        }
        due("a seventh", Checks.plan(x, "f1a1t1u1"), Checks.FULL);
        due("the page stays", x.blank(), 8);
        due("none came", x.count(1), 6);
        due("STATE ahead of FULL", Checks.plan(x, "f1a1t1"), Checks.STATE);
        due("the last one is as it was", x.planTold(5, 0), 6);
    }

    private static void promise7PlanTold() {
        FirstPancake x = new FirstPancake();
        Checks.plan(x, "f9a60nesweet59u1");
        Checks.plan(x, "f2a3t4u50");
        int[] whats = {0, 1, 2, 3, 4, 10, 11, 12, 13, 14, 15};
        int[] first = {9, 60, 59, 1, 6, 0, 1, 2, 3, 1, 1};
        int[] second = {2, 3, 4, 50, 0, -1, -1, -1, -1, -1, -1};
        for (int i = 0; i < whats.length; i++) {
            due("planTold(0, " + whats[i] + ")", x.planTold(0, whats[i]), first[i]);
            due("planTold(1, " + whats[i] + ")", x.planTold(1, whats[i]), second[i]);
        }
        for (int what : new int[] {-1, 5, 9, 16, Integer.MAX_VALUE, Integer.MIN_VALUE}) {
            due("planTold(0, " + what + ")", x.planTold(0, what), Checks.OUTSIDE);
        }
        for (int plan : new int[] {-1, 2, 6, Integer.MAX_VALUE, Integer.MIN_VALUE}) {
            due("planTold(" + plan + ", 0)", x.planTold(plan, 0), Checks.UNKNOWN);
        }
        due("UNKNOWN ahead of OUTSIDE", x.planTold(2, 5), Checks.UNKNOWN);
    }

    private static void promise8Cell() {
        FirstPancake x = new FirstPancake();
        due("without a PAN", x.cell(0, 9), Checks.UNKNOWN);
        Checks.pan(x, "12s3/45s0s");
        int[] rings = {1, 2, 3, 4, 5, 0};
        int[] sticky = {0, 1, 0, 0, 1, 1};
        for (int c = 0; c < 6; c++) {
            due("RING of " + c, x.cell(c, 0), rings[c]);
            due("STICKY of " + c, x.cell(c, 1), sticky[c]);
            due("WARMTH of " + c, x.cell(c, 2), 0);
            due("BITS of " + c, x.cell(c, 3), 0);
        }
        x.warm(2, 1);
        due("WARMTH", x.cell(4, 2), 10);
        Checks.plan(x, "f1a2t1u1");
        x.fry(0);
        due("BITS", x.cell(4, 3), 1);
        due("BITS where none lay", x.cell(5, 3), 0);
        due("what 4", x.cell(0, 4), Checks.OUTSIDE);
        due("what -1", x.cell(0, -1), Checks.OUTSIDE);
        due("cell 6", x.cell(6, 0), Checks.UNKNOWN);
        due("cell -1", x.cell(-1, 0), Checks.UNKNOWN);
        due("UNKNOWN ahead of OUTSIDE", x.cell(6, 4), Checks.UNKNOWN);
    }

    public static void main(String[] args) {
        promise1NewObject();
        promise2Letters();
        promise3Blank();
        promise4FaultOfPans();
        promise4FaultOfPlans();
        promise5Pan();
        promise5AnotherPan();
        promise6Plan();
        promise7PlanTold();
        promise8Cell();
        CHECKS.end();
    }
}
