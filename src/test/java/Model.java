import java.math.BigInteger;
import java.util.ArrayList;
import java.util.List;
import java.util.regex.Matcher;
import java.util.regex.Pattern;

/**
 * The document once more, as slowly and plainly as it can be said: texts by patterns, every tick of every cell,
 * rounds second by second. RandomRunsTest holds the class against it.
 */
final class Model {
    static final int NONE = -1, UNKNOWN = -101, OUTSIDE = -102, STATE = -103, FULL = -104;

    private static final String NUMBER = "([1-9]|[1-5][0-9]|60)";
    private static final Pattern PLAN =
            Pattern.compile("f([1-9])a" + NUMBER + "([nesw]{0,6})t" + NUMBER + "u" + NUMBER);
    private static final Pattern[] PANS = {panOf(2), panOf(3), panOf(4)};

    private static Pattern panOf(int width) {
        String row = "([0-9]s?){" + width + "}";
        return Pattern.compile(row + "(/" + row + "){1,3}");
    }

    private record PlanRow(int fire, int amount, String swings, int first, int second) {
    }

    private static final class CakeRow {
        int[] thick;
        int stuck;
        int[][] brown;

        int told(int what) {
            int cells = 0, most = 0, least = 1000, one = 0, other = 0;
            for (int c = 0; c < thick.length; c++) {
                if (thick[c] > 0) {
                    cells++;
                    most = Math.max(most, thick[c]);
                    least = Math.min(least, thick[c]);
                    one += brown[0][c];
                    other += brown[1][c];
                }
            }
            int mean = one / cells, edge = most - least;
            int kind = stuck > 0 ? 5 : edge > 9 ? 4 : mean < 20 ? 1 : mean > 100 ? 3 : mean > 60 ? 2 : 0;
            int worth = switch (kind) {
                case 0 -> 10;
                case 1 -> 4;
                case 2 -> 6;
                case 3 -> 6 - 5;
                case 4 -> 5;
                default -> 5 - 3;
            };
            return new int[] {kind, mean, other / cells, edge, cells, stuck, worth}[what];
        }
    }

    /** A pan that can be copied, so that what would be is tried on the copy. */
    private static final class PanRow {
        int rows, columns, fat;
        int[] ring, warmth, bits;
        boolean[] sticky;

        PanRow copy() {
            PanRow p = new PanRow();
            p.rows = rows;
            p.columns = columns;
            p.fat = fat;
            p.ring = ring;
            p.sticky = sticky;
            p.warmth = warmth.clone();
            p.bits = bits.clone();
            return p;
        }

        void tick(int fire, int[] thick, int[] brown) {
            for (int c = 0; c < ring.length; c++) {
                int was = warmth[c];
                warmth[c] = was + fire * ring[c] - was / 10;
                if (thick != null && thick[c] > 0) {
                    brown[c] += Math.max(0, warmth[c] - 60) / (thick[c] + 2);
                }
            }
        }

        CakeRow fried(PlanRow plan) {
            int n = ring.length;
            CakeRow cake = new CakeRow();
            cake.thick = new int[n];
            cake.brown = new int[2][n];
            int middle = (rows / 2) * columns + columns / 2;
            cake.thick[middle] = plan.amount;
            warmth[middle] = Math.max(0, warmth[middle] - 2 * plan.amount);
            boolean[] fast = new boolean[n];
            for (char swing : plan.swings.toCharArray()) {
                tick(plan.fire, cake.thick, cake.brown[0]);
                for (int c = 0; c < n; c++) {
                    fast[c] |= cake.thick[c] > 0 && warmth[c] >= 100;
                }
                swung(swing, cake, fast);
            }
            for (int i = 0; i < plan.first; i++) {
                tick(plan.fire, cake.thick, cake.brown[0]);
            }
            for (int i = 0; i < plan.second; i++) {
                tick(plan.fire, cake.thick, cake.brown[1]);
            }
            for (int c = 0; c < n; c++) {
                if (cake.thick[c] > 0 && sticky[c] && !(fat > bits[c])) {
                    cake.stuck++;
                    bits[c] = Math.min(9, bits[c] + 1);
                }
            }
            fat = Math.max(0, fat - 1);
            return cake;
        }

        private void swung(char swing, CakeRow cake, boolean[] fast) {
            int[] had = cake.thick.clone();
            for (int c = 0; c < had.length; c++) {
                int row = c / columns, column = c % columns;
                switch (swing) {
                    case 'n' -> row--;
                    case 'e' -> column++;
                    case 's' -> row++;
                    default -> column--;
                }
                if (fast[c] || had[c] <= 1 || row < 0 || row >= rows || column < 0 || column >= columns) {
                    continue;
                }
                int goes = (had[c] - 1 + 1) / 2;
                int to = row * columns + column;
                cake.thick[c] -= goes;
                cake.thick[to] += goes;
                warmth[to] = Math.max(0, warmth[to] - 2 * goes);
            }
        }
    }

    private String page = "";
    private PanRow pan;
    private PanRow image;
    private int imageCakes;
    private final List<PlanRow> plans = new ArrayList<>();
    private final List<CakeRow> cakes = new ArrayList<>();
    private int pansRead, searches;

    int letters(long w) {
        StringBuilder more = new StringBuilder();
        boolean ended = false;
        for (int i = 0; i < 8; i++) {
            int code = (int) (w >>> 8 * i & 0xff);
            if (code > 126 || ended && code != 0) {
                return OUTSIDE;
            }
            ended |= code == 0;
            if (!ended) {
                more.append((char) code);
            }
        }
        if (page.length() + more.length() > 40) {
            return FULL;
        }
        page += more;
        return page.length();
    }

    int blank() {
        int had = page.length();
        page = "";
        return had;
    }

    private static boolean goesOn(Pattern pattern, String text) {
        Matcher m = pattern.matcher(text);
        return m.matches() || m.hitEnd();
    }

    int fault(int sort) {
        if (sort != 0 && sort != 1) {
            return OUTSIDE;
        }
        for (int i = 0; i < page.length(); i++) {
            String ahead = page.substring(0, i + 1);
            boolean possible = sort == 1 ? goesOn(PLAN, ahead)
                    : goesOn(PANS[0], ahead) || goesOn(PANS[1], ahead) || goesOn(PANS[2], ahead);
            if (!possible) {
                return i;
            }
        }
        return page.length();
    }

    int pan() {
        boolean some = false;
        for (Pattern p : PANS) {
            some |= p.matcher(page).matches();
        }
        if (!some) {
            return STATE;
        }
        String digits = page.replace("s", "");
        pan = new PanRow();
        pan.rows = digits.split("/").length;
        pan.columns = digits.indexOf('/');
        String flat = digits.replace("/", "");
        int n = flat.length();
        pan.ring = new int[n];
        pan.sticky = new boolean[n];
        pan.warmth = new int[n];
        pan.bits = new int[n];
        int c = -1;
        for (char letter : page.toCharArray()) {
            if (Character.isDigit(letter)) {
                pan.ring[++c] = letter - '0';
            } else if (letter == 's') {
                pan.sticky[c] = true;
            }
        }
        cakes.clear();
        image = null;
        pansRead++;
        page = "";
        return n;
    }

    int plan() {
        Matcher m = PLAN.matcher(page);
        if (!m.matches()) {
            return STATE;
        }
        if (plans.size() == 6) {
            return FULL;
        }
        plans.add(new PlanRow(Integer.parseInt(m.group(1)), Integer.parseInt(m.group(2)), m.group(3),
                Integer.parseInt(m.group(4)), Integer.parseInt(m.group(5))));
        page = "";
        return plans.size() - 1;
    }

    private boolean noPlan(int plan) {
        return plan < 0 || plan >= plans.size();
    }

    private boolean noCake(int cake) {
        return cake < 0 || cake >= cakes.size();
    }

    private boolean noCell(int cell) {
        return pan == null || cell < 0 || cell >= pan.ring.length;
    }

    private static boolean out(int v, int least, int most) {
        return v < least || v > most;
    }

    int planTold(int plan, int what) {
        if (noPlan(plan)) {
            return UNKNOWN;
        }
        PlanRow p = plans.get(plan);
        if (what >= 10 && what <= 15) {
            return what - 10 < p.swings.length() ? "nesw".indexOf(p.swings.charAt(what - 10)) : NONE;
        }
        return switch (what) {
            case 0 -> p.fire;
            case 1 -> p.amount;
            case 2 -> p.first;
            case 3 -> p.second;
            case 4 -> p.swings.length();
            default -> OUTSIDE;
        };
    }

    int cell(int cell, int what) {
        if (noCell(cell)) {
            return UNKNOWN;
        }
        return switch (what) {
            case 0 -> pan.ring[cell];
            case 1 -> pan.sticky[cell] ? 1 : 0;
            case 2 -> pan.warmth[cell];
            case 3 -> pan.bits[cell];
            default -> OUTSIDE;
        };
    }

    int warm(int fire, int ticks) {
        if (pan == null) {
            return STATE;
        }
        if (out(fire, 0, 9) || out(ticks, 1, 200)) {
            return OUTSIDE;
        }
        for (int i = 0; i < ticks; i++) {
            pan.tick(fire, null, null);
        }
        int most = 0;
        for (int w : pan.warmth) {
            most = Math.max(most, w);
        }
        return most;
    }

    int fat(int v) {
        if (pan == null) {
            return STATE;
        }
        if (out(v, 0, 9)) {
            return OUTSIDE;
        }
        int was = pan.fat;
        pan.fat = v;
        return was;
    }

    private int bitsTogether() {
        int sum = 0;
        for (int c = 0; pan != null && c < pan.bits.length; c++) {
            sum += pan.bits[c];
        }
        return sum;
    }

    int scrape() {
        if (pan == null) {
            return STATE;
        }
        int were = bitsTogether();
        pan.bits = new int[pan.bits.length];
        return were;
    }

    int fry(int plan) {
        if (noPlan(plan)) {
            return UNKNOWN;
        }
        if (pan == null) {
            return STATE;
        }
        if (cakes.size() == 24) {
            return FULL;
        }
        cakes.add(pan.fried(plans.get(plan)));
        return cakes.get(cakes.size() - 1).told(0);
    }

    int cake(int cake, int what) {
        return noCake(cake) ? UNKNOWN : out(what, 0, 6) ? OUTSIDE : cakes.get(cake).told(what);
    }

    int as(int cake, int kind) {
        if (noCake(cake)) {
            return UNKNOWN;
        }
        if (out(kind, 0, 5)) {
            return OUTSIDE;
        }
        List<Integer> all = switch (cakes.get(cake).told(0)) {
            case 0 -> List.of(0);
            case 1 -> List.of(0, 1);
            case 2 -> List.of(0, 2);
            case 3 -> List.of(0, 2, 3);
            case 4 -> List.of(0, 4);
            default -> List.of(0, 4, 5);
        };
        return all.contains(kind) ? cake : NONE;
    }

    int thick(int cake, int cell) {
        return noCake(cake) || noCell(cell) ? UNKNOWN : cakes.get(cake).thick[cell];
    }

    int tried(int plan, int what) {
        if (noPlan(plan)) {
            return UNKNOWN;
        }
        if (pan == null) {
            return STATE;
        }
        return out(what, 0, 6) ? OUTSIDE : pan.copy().fried(plans.get(plan)).told(what);
    }

    private boolean[] twelve(int plan) {
        boolean[] right = new boolean[12];
        PanRow p = pan.copy();
        for (int i = 0; i < 12; i++) {
            right[i] = p.fried(plans.get(plan)).told(0) == 0;
        }
        return right;
    }

    int from(int plan) {
        if (noPlan(plan)) {
            return UNKNOWN;
        }
        if (pan == null) {
            return STATE;
        }
        boolean[] right = twelve(plan);
        for (int first = 0; first < 12; first++) {
            boolean all = true;
            for (int i = first; i < 12; i++) {
                all &= right[i];
            }
            if (all) {
                return first;
            }
        }
        return NONE;
    }

    int dogs(int plan) {
        if (noPlan(plan)) {
            return UNKNOWN;
        }
        if (pan == null) {
            return STATE;
        }
        int wrong = 0;
        for (boolean right : twelve(plan)) {
            wrong += right ? 0 : 1;
        }
        return wrong;
    }

    int why(int plan) {
        if (noPlan(plan)) {
            return UNKNOWN;
        }
        if (pan == null) {
            return STATE;
        }
        PlanRow by = plans.get(plan);
        if (pan.copy().fried(by).told(0) == 0) {
            return NONE;
        }
        PanRow six = pan.copy();
        for (int i = 0; i < 6; i++) {
            six.fried(by);
        }
        PanRow warm = pan.copy();
        warm.warmth = six.warmth.clone();
        PanRow fatter = pan.copy();
        fatter.fat = 9;
        PanRow clean = pan.copy();
        clean.bits = new int[pan.bits.length];
        return (warm.fried(by).told(0) == 0 ? 1 : 0) + (fatter.fried(by).told(0) == 0 ? 2 : 0)
                + (clean.fried(by).told(0) == 0 ? 4 : 0);
    }

    int bestFire(int plan, int so, int what) {
        if (noPlan(plan)) {
            return UNKNOWN;
        }
        if (pan == null) {
            return STATE;
        }
        if (out(so, 1, 12) || out(what, 0, 1)) {
            return OUTSIDE;
        }
        int best = 0, most = -1;
        PlanRow p = plans.get(plan);
        for (int fire = 1; fire <= 9; fire++) {
            PanRow trial = pan.copy();
            int worth = 0;
            for (int i = 0; i < so; i++) {
                worth += trial.fried(new PlanRow(fire, p.amount, p.swings, p.first, p.second)).told(6);
            }
            if (worth > most) {
                most = worth;
                best = fire;
            }
        }
        return what == 0 ? best : most;
    }

    private static List<String> rowsOf(int k) {
        List<String> rows = new ArrayList<>();
        if (k == 0) {
            rows.add("");
            return rows;
        }
        for (String head : rowsOf(k - 1)) {
            for (char swing : "nesw".toCharArray()) {
                rows.add(head + swing);
            }
        }
        return rows;
    }

    int bestSwing(int plan, int k, int what) {
        if (noPlan(plan)) {
            return UNKNOWN;
        }
        if (pan == null) {
            return STATE;
        }
        if (out(k, 1, 3) || out(what, 0, 3)) {
            return OUTSIDE;
        }
        if (searches == 30) {
            return STATE;
        }
        searches++;
        String best = "";
        int least = 1000;
        PlanRow p = plans.get(plan);
        for (String row : rowsOf(k)) {
            int edge = pan.copy().fried(new PlanRow(p.fire, p.amount, row, p.first, p.second)).told(3);
            if (edge < least) {
                least = edge;
                best = row;
            }
        }
        return what == 3 ? least : what < k ? "nesw".indexOf(best.charAt(what)) : NONE;
    }

    int nextTwo(int what) {
        if (pan == null || plans.isEmpty()) {
            return STATE;
        }
        if (out(what, 0, 2)) {
            return OUTSIDE;
        }
        if (searches == 30) {
            return STATE;
        }
        searches++;
        int[] best = {-1, -1, -1};
        for (int p = 0; p < plans.size(); p++) {
            for (int q = 0; q < plans.size(); q++) {
                PanRow trial = pan.copy();
                int worth = trial.fried(plans.get(p)).told(6) + trial.fried(plans.get(q)).told(6);
                if (worth > best[2]) {
                    best = new int[] {p, q, worth};
                }
            }
        }
        return best[what];
    }

    int rounds(int pans, int first, int second, int hands, int by, int what) {
        if (out(pans, 1, 9) || out(first, 1, 99) || out(second, 1, 99) || out(hands, 1, 9) || out(by, 0, 999)
                || out(what, 0, 1)) {
            return OUTSIDE;
        }
        int[] since = new int[pans];
        int[] step = new int[pans];
        int busyUntil = 0, most = 0, waited = 0;
        for (int t = 0; t < by; t++) {
            if (t < busyUntil) {
                continue;
            }
            int to = -1;
            for (int p = pans - 1; p >= 0; p--) {
                boolean wants = since[p] <= t;
                if (wants && (to < 0 || t - since[p] >= t - since[to])) {
                    to = p;
                }
            }
            if (to < 0) {
                continue;
            }
            waited = Math.max(waited, t - since[to]);
            busyUntil = t + hands;
            if (step[to] == 2 && busyUntil <= by) {
                most++;
            }
            since[to] = busyUntil + (step[to] == 0 ? first : step[to] == 1 ? second : 0);
            step[to] = (step[to] + 1) % 3;
        }
        return what == 0 ? most : waited;
    }

    int toss(int pace, int spin) {
        return out(pace, 1, 30) || out(spin, 1, 30) ? OUTSIDE : (pace * spin / 10) % 4 == 2 ? 1 : 0;
    }

    int lands(int pace, int spin, int slip, int part) {
        if (out(pace, 1, 30) || out(spin, 1, 30) || out(slip, 0, 9) || out(part, 0, 1)) {
            return OUTSIDE;
        }
        int above = 0, below = 0;
        for (int p = pace - slip; p <= pace + slip; p++) {
            if (p >= 1) {
                below++;
                above += (p * spin / 10) % 4 == 2 ? 1 : 0;
            }
        }
        int common = BigInteger.valueOf(above).gcd(BigInteger.valueOf(below)).intValue();
        return (part == 0 ? above : below) / common;
    }

    int bestSpin(int pace, int slip) {
        if (out(pace, 1, 30) || out(slip, 0, 9)) {
            return OUTSIDE;
        }
        int best = 1;
        for (int spin = 2; spin <= 30; spin++) {
            long here = (long) lands(pace, spin, slip, 0) * lands(pace, best, slip, 1);
            long there = (long) lands(pace, best, slip, 0) * lands(pace, spin, slip, 1);
            if (here > there) {
                best = spin;
            }
        }
        return best;
    }

    int image() {
        if (pan == null) {
            return STATE;
        }
        image = pan.copy();
        imageCakes = cakes.size();
        return imageCakes;
    }

    int restore() {
        if (image == null) {
            return STATE;
        }
        pan = image.copy();
        while (cakes.size() > imageCakes) {
            cakes.remove(cakes.size() - 1);
        }
        return cakes.size();
    }

    int count(int what) {
        return switch (what) {
            case 0 -> pan == null ? 0 : pan.ring.length;
            case 1 -> plans.size();
            case 2 -> cakes.size();
            case 3 -> page.length();
            case 4 -> pan == null ? 0 : pan.fat;
            case 5 -> bitsTogether();
            case 6 -> pansRead;
            case 7 -> searches;
            case 8 -> cakes.stream().mapToInt(c -> c.told(6)).sum();
            default -> OUTSIDE;
        };
    }

    long digest() {
        List<Integer> all = new ArrayList<>();
        int cells = count(0);
        for (int c = 0; c < cells; c++) {
            for (int what = 0; what <= 3; what++) {
                all.add(cell(c, what));
            }
        }
        for (int p = 0; p < plans.size(); p++) {
            for (int what = 0; what <= 4; what++) {
                all.add(planTold(p, what));
            }
            for (int i = 0; i < plans.get(p).swings.length(); i++) {
                all.add(planTold(p, 10 + i));
            }
        }
        for (int k = 0; k < cakes.size(); k++) {
            for (int what = 0; what <= 6; what++) {
                all.add(cake(k, what));
            }
            for (int c = 0; c < cells; c++) {
                all.add(thick(k, c));
            }
        }
        for (int p = 0; pan != null && p < plans.size(); p++) {
            all.add(tried(p, 0));
            all.add(tried(p, 1));
        }
        for (char letter : page.toCharArray()) {
            all.add((int) letter);
        }
        for (int what = 0; what <= 8; what++) {
            all.add(count(what));
        }
        long h = 499;
        for (int number : all) {
            h = 31 * h + number;
        }
        return h;
    }
}
