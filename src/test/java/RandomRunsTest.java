import java.util.Random;

/** Many runs of calls, wild arguments among them, each answer held against the model's. */
public final class RandomRunsTest {
    private static final int RUNS = 1500;
    private static final int[] EDGES = {Integer.MIN_VALUE, -1000, -1, 0, 1, 2, 3, 4, 5, 6, 7, 8, 9, 10, 11, 12, 13,
        14, 15, 16, 23, 24, 29, 30, 31, 60, 61, 99, 100, 200, 201, 999, 1000, Integer.MAX_VALUE};

    private final Checks checks = new Checks();
    private final Random random;
    private final FirstPancake x = new FirstPancake();
    private final Model m = new Model();
    private final int run;

    private RandomRunsTest(int run) {
        this.run = run;
        random = new Random(7919L * run + 1);
    }

    private int pick(int least, int most) {
        return random.nextInt(12) == 0 ? EDGES[random.nextInt(EDGES.length)]
                : least + random.nextInt(most - least + 1);
    }

    private String panText() {
        int rows = 2 + random.nextInt(3), columns = 2 + random.nextInt(3), sticky = random.nextInt(4);
        StringBuilder text = new StringBuilder();
        for (int r = 0; r < rows; r++) {
            text.append(r > 0 ? "/" : "");
            for (int c = 0; c < columns; c++) {
                text.append(random.nextInt(10)).append(random.nextInt(6) < sticky ? "s" : "");
            }
        }
        return text.toString();
    }

    private String planText() {
        StringBuilder text = new StringBuilder("f").append(1 + random.nextInt(9)).append("a")
                .append(1 + random.nextInt(random.nextBoolean() ? 60 : 15));
        for (int i = random.nextInt(7); i > 0; i--) {
            text.append("nesw".charAt(random.nextInt(4)));
        }
        int longest = random.nextBoolean() ? 60 : 12;
        return text.append("t").append(1 + random.nextInt(longest)).append("u").append(1 + random.nextInt(60))
                .toString();
    }

    /** A text with one letter off, left out or put in. */
    private String spoilt(String text) {
        int at = random.nextInt(text.length());
        String letters = "0123456789s/fatunew61~x";
        String letter = String.valueOf(letters.charAt(random.nextInt(letters.length())));
        return switch (random.nextInt(3)) {
            case 0 -> text.substring(0, at) + letter + text.substring(at + 1);
            case 1 -> text.substring(0, at) + text.substring(at + 1);
            default -> text.substring(0, at) + letter + text.substring(at);
        };
    }

    private void tell(String text) {
        for (int i = 0; i < text.length(); i += 8) {
            long w = Checks.word(text.substring(i));
            same("letters " + text, x.letters(w), m.letters(w));
        }
    }

    private void same(String call, long got, long want) {
        checks.due("run " + run + ": " + call, got, want);
    }

    private void page() {
        boolean pan = random.nextInt(3) == 0;
        String text = pan ? panText() : planText();
        if (random.nextInt(3) == 0) {
            text = spoilt(text);
        }
        tell(text);
        same("fault(0) " + text, x.fault(0), m.fault(0));
        same("fault(1) " + text, x.fault(1), m.fault(1));
        if (random.nextInt(8) == 0) {
            pan = !pan;
        }
        if (pan) {
            same("pan() " + text, x.pan(), m.pan());
        } else {
            same("plan() " + text, x.plan(), m.plan());
        }
        if (random.nextInt(3) > 0) {
            same("blank()", x.blank(), m.blank());
        }
    }

    private void wildPage() {
        long w = random.nextLong() & 0x7f7f7f7f7f7f7f7fL >>> (8 * random.nextInt(8));
        w = random.nextInt(3) == 0 ? random.nextLong() : w;
        same("letters(" + w + ")", x.letters(w), m.letters(w));
        int sort = pick(0, 1);
        same("fault(" + sort + ")", x.fault(sort), m.fault(sort));
    }

    private void told() {
        int a = pick(0, 5), b = pick(0, 15), c = pick(0, 15), d = pick(0, 3), e = pick(0, 23), f = pick(0, 6);
        same("planTold(" + a + ", " + b + ")", x.planTold(a, b), m.planTold(a, b));
        same("cell(" + c + ", " + d + ")", x.cell(c, d), m.cell(c, d));
        same("cake(" + e + ", " + f + ")", x.cake(e, f), m.cake(e, f));
        same("as(" + e + ", " + f + ")", x.as(e, f), m.as(e, f));
        same("thick(" + e + ", " + c + ")", x.thick(e, c), m.thick(e, c));
        int what = pick(0, 8);
        same("count(" + what + ")", x.count(what), m.count(what));
    }

    private void used() {
        int a = pick(0, 5), b = pick(0, 9), c = pick(1, 200);
        switch (random.nextInt(9)) {
            case 0 -> same("warm(" + b + ", " + c + ")", x.warm(b, c), m.warm(b, c));
            case 1 -> same("fat(" + b + ")", x.fat(b), m.fat(b));
            case 2 -> same("scrape()", x.scrape(), m.scrape());
            case 3 -> same("image()", x.image(), m.image());
            case 4 -> same("restore()", x.restore(), m.restore());
            default -> same("fry(" + a + ")", x.fry(a), m.fry(a));
        }
    }

    private void wouldBe() {
        int a = pick(0, 5), b = pick(0, 6), c = pick(1, 12), d = pick(0, 1), e = pick(1, 3), f = pick(0, 3);
        same("tried(" + a + ", " + b + ")", x.tried(a, b), m.tried(a, b));
        same("from(" + a + ")", x.from(a), m.from(a));
        same("dogs(" + a + ")", x.dogs(a), m.dogs(a));
        same("why(" + a + ")", x.why(a), m.why(a));
        same("bestFire(" + a + ", " + c + ", " + d + ")", x.bestFire(a, c, d), m.bestFire(a, c, d));
        if (random.nextInt(3) == 0) {
            same("bestSwing(" + a + ", " + e + ", " + f + ")", x.bestSwing(a, e, f), m.bestSwing(a, e, f));
            same("nextTwo(" + f + ")", x.nextTwo(f), m.nextTwo(f));
        }
    }

    private void roundsAndTosses() {
        int a = pick(1, 9), b = pick(1, 99), c = pick(1, 99), d = pick(1, 9), e = pick(0, 999), f = pick(0, 1);
        same("rounds(" + a + ", " + b + ", " + c + ", " + d + ", " + e + ", " + f + ")",
                x.rounds(a, b, c, d, e, f), m.rounds(a, b, c, d, e, f));
        int g = pick(1, 30), h = pick(1, 30), i = pick(0, 9);
        same("toss(" + g + ", " + h + ")", x.toss(g, h), m.toss(g, h));
        same("lands(" + g + ", " + h + ", " + i + ", " + f + ")", x.lands(g, h, i, f), m.lands(g, h, i, f));
        same("bestSpin(" + g + ", " + i + ")", x.bestSpin(g, i), m.bestSpin(g, i));
    }

    private void step() {
        switch (random.nextInt(12)) {
            case 0, 1 -> page();
            case 2 -> wildPage();
            case 3, 4 -> told();
            case 5, 6, 7, 8 -> used();
            case 9, 10 -> wouldBe();
            default -> roundsAndTosses();
        }
    }

    private void go() {
        same("digest()", x.digest(), m.digest());
        int ready = random.nextInt(5);
        if (ready > 0) {
            tell(panText());
            same("pan()", x.pan(), m.pan());
        }
        for (int i = 0; i < ready; i++) {
            tell(planText());
            same("plan()", x.plan(), m.plan());
        }
        for (int i = 0; i < 60; i++) {
            step();
            if (i % 6 == 0) {
                same("digest()", x.digest(), m.digest());
            }
        }
        same("digest()", x.digest(), m.digest());
    }

    public static void main(String[] args) {
        for (int run = 0; run < RUNS; run++) {
            RandomRunsTest test = new RandomRunsTest(run);
            test.go();
            if (test.checks.wrongOnes() > 0) {
                test.checks.end();
            }
        }
        System.out.println(RUNS + " random runs as the model has them");
    }
}
