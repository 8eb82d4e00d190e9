import java.math.BigInteger;
import java.util.ArrayList;
import java.util.Collections;
import java.util.Comparator;
import java.util.List;
import java.util.Random;
import java.util.TreeMap;
import java.util.regex.Matcher;
import java.util.regex.Pattern;

/** Drawn runs of calls, answered by the class and by a second program that shares no code with it,
 * though it takes unclear words of the document the same way. */
public final class ModelTests {
    /** An object is used for at most 512 calls; a step's longest row of calls fills a sheet for 24 players. */
    private static final int RUNS = 4000, STEPS = 2000, MOST_CALLS = 512, LONGEST_STEP = 217;
    private static final BigInteger MILLION = BigInteger.valueOf(1000000);
    private static int wrong = 0;

    /** The document with the library's help: real arrays and the machine's own exceptions stand for the sheets. */
    private static final class Model {
        final List<Integer> kin = new ArrayList<>();
        final List<Integer> row = new ArrayList<>();
        final List<Integer> onTrial = new ArrayList<>();
        final List<List<Integer>> marks = new ArrayList<>();
        final List<int[]> heard = new ArrayList<>();
        final Object[] sheets = new Object[4];
        final int[] chances = {10, 30, 50, 70, 90};
        final StringBuilder text = new StringBuilder();
        int jurors = 5;
        int finding = 0;

        int player(int k) {
            if (k < 0 || k > 511) {
                return -2;
            }
            if (kin.size() == 24) {
                return -4;
            }
            row.add(kin.size());
            kin.add(k);
            return kin.size() - 1;
        }

        int jurors(int j) {
            if (j < 1 || j > 9) {
                return -2;
            }
            int was = jurors;
            jurors = j;
            return was;
        }

        int draw(int seed) {
            Collections.sort(row);
            int s = seed;
            for (int i = row.size() - 1; i > 0; i--) {
                s = (int) (1103515245L * s + 12345L);
                Collections.swap(row, i, (int) ((s & 0xffffffffL) / 65536 % (i + 1)));
            }
            return row.isEmpty() ? -1 : row.get(0);
        }

        int order(int i) {
            return i < 0 || i >= row.size() ? -2 : row.get(i);
        }

        /** null: it does not count. */
        Boolean vote(int p, int j, int r) {
            if ((kin.get(p) & 1 << j) != 0 || sheets[r] == null || java.lang.reflect.Array.getLength(sheets[r]) <= 9 * p + j) {
                return null;
            }
            int v = ((Number) java.lang.reflect.Array.get(sheets[r], 9 * p + j)).intValue();
            return v < 0 ? null : v > 0;
        }

        int[] tally(int p, int from, int to) {
            int[] t = new int[2];
            for (int r = from; r < to; r++) {
                for (int j = 0; j < jurors; j++) {
                    Boolean v = vote(p, j, r);
                    t[0] += v == null ? 0 : 1;
                    t[1] += v != null && v ? 1 : 0;
                }
            }
            return t;
        }

        int votes(int p, int r, int what) {
            if (p < 0 || p >= kin.size() || r < 0 || r > 3 || what < 0 || what > 1) {
                return -2;
            }
            return tally(p, r, r + 1)[what];
        }

        int type(int b) {
            if (b < 0 || b > 255) {
                return -2;
            }
            if (text.length() == 60) {
                return -4;
            }
            return text.append((char) b).length();
        }

        int repeal() {
            int had = text.length();
            text.setLength(0);
            return had;
        }

        static final String X = "(?:100|0[1-9][0-9]|00[1-9]|(?:[1-9][0-9]|0?[1-9])(?![0-9]))";
        static final String Y = "(?:01[0-9]|02[0-4]|00[1-9]|(?:1[0-9]|2[0-4]|0?[1-9])(?![0-9]))";
        static final Pattern[] PARTS = {Pattern.compile("v"), Pattern.compile(X), Pattern.compile("a"), Pattern.compile(Y),
            Pattern.compile("[ands]"), Pattern.compile(";")};

        int fault() {
            int at = 0;
            for (int part = 0; part < 24; part++) {
                if (part % 6 == 5 && (at == text.length() || part == 23)) {
                    return at == text.length() ? -1 : at;
                }
                Matcher m = PARTS[part % 6].matcher(text).region(at, text.length());
                m.useTransparentBounds(true);
                if (!m.lookingAt()) {
                    return at;
                }
                at = m.end();
            }
            throw new IllegalStateException();
        }

        String[] rounds() {
            return fault() == -1 ? text.toString().split(";") : new String[0];
        }

        int law(int r, int what) {
            if (what < 0 || what > 2 || r < 0 || r > 3) {
                return -2;
            }
            if (fault() != -1) {
                return -3;
            }
            String[] rounds = rounds();
            return r >= rounds.length ? -2 : part(rounds[r], what);
        }

        int part(String round, int what) {
            int a = round.indexOf('a');
            if (what == 2) {
                return round.charAt(round.length() - 1);
            }
            return Integer.parseInt(what == 0 ? round.substring(1, a) : round.substring(a + 1, round.length() - 1));
        }

        /** Each number from 1 to 9 divides it, so shares of one round's votes are whole. */
        static final int TO_9 = 2520;

        List<Integer> out(int round) {
            List<Integer> in = new ArrayList<>(row);
            for (int r = 0; r <= round; r++) {
                int now = r;
                int x = law(r, 0);
                TreeMap<Integer, List<Integer>> groups = new TreeMap<>(Comparator.reverseOrder());
                for (int p : in) {
                    int[] t = tally(p, r, r + 1);
                    if (t[0] > 0 && t[1] * 100 >= x * t[0]) {
                        groups.computeIfAbsent(t[1] * TO_9 / t[0], k -> new ArrayList<>()).add(p);
                    }
                }
                in = new ArrayList<>();
                int left = law(r, 1);
                for (List<Integer> group : groups.values()) {
                    if (left <= 0) {
                        break;
                    }
                    if (group.size() > left) {
                        group.sort(Comparator.comparing(row::indexOf));
                        if (law(r, 2) == 's') {
                            group.sort(Comparator.comparing(p -> -tally(p, 0, now + 1)[1]));
                        }
                        if (law(r, 2) != 'a') {
                            group = group.subList(0, law(r, 2) == 'n' ? 0 : left);
                        }
                        left = 0;
                    }
                    in.addAll(group);
                    left -= group.size();
                }
            }
            return in;
        }

        int through(int r) {
            int refusal = law(r, 0);
            if (refusal < 0) {
                return refusal;
            }
            int bits = 0;
            for (int p : out(r)) {
                bits += 1 << p;
            }
            return bits;
        }

        int advance(int r) {
            int refusal = law(r, 0);
            return refusal < 0 ? refusal : out(r).size();
        }

        int chosen() {
            int last = rounds().length;
            if (last == 0) {
                return -3;
            }
            List<Integer> out = out(last - 1);
            return out.size() == 1 ? out.get(0) : -1;
        }

        int other(int rule) {
            if (rule < 1 || rule > 3) {
                return -2;
            }
            if (rule < 3 && fault() != -1) {
                return -3;
            }
            int rounds = rounds().length;
            int best = -1;
            for (int p : row) {
                boolean more;
                if (rule == 1) {
                    more = best < 0 || tally(p, 0, rounds)[1] > tally(best, 0, rounds)[1];
                } else if (rule == 2) {
                    int[] t = tally(p, 0, rounds);
                    int[] b = best < 0 ? t : tally(best, 0, rounds);
                    more = t[0] > 0 && (best < 0 || (long) t[1] * b[0] > (long) b[1] * t[0]);
                } else {
                    more = row.stream().allMatch(q -> q == p || onPart(p, q) > onPart(q, p));
                }
                best = more ? p : best;
            }
            return best;
        }

        int onPart(int p, int q) {
            int n = 0;
            for (int j = 0; j < jurors; j++) {
                n += Boolean.TRUE.equals(vote(p, j, 0)) && Boolean.FALSE.equals(vote(q, j, 0)) ? 1 : 0;
            }
            return n;
        }

        int chance(int q, int h) {
            if (q < 0 || q > 4 || h < 0 || h > 100) {
                return -2;
            }
            int was = chances[q];
            chances[q] = h;
            return was;
        }

        int passes(int q, int x) {
            if (q < 0 || q > 4 || x < 1 || x > 100) {
                return -2;
            }
            BigInteger ways = BigInteger.ZERO;
            for (int set = 0; set < 1 << jurors; set++) {
                int yes = Integer.bitCount(set);
                if (yes * 100 >= x * jurors) {
                    ways = ways.add(BigInteger.valueOf(chances[q]).pow(yes).multiply(BigInteger.valueOf(100 - chances[q]).pow(jurors - yes)));
                }
            }
            return ways.multiply(MILLION).divide(BigInteger.valueOf(100).pow(jurors)).intValueExact();
        }

        int all(int q) {
            if (q < 0 || q > 4) {
                return -2;
            }
            if (fault() != -1) {
                return -3;
            }
            BigInteger share = MILLION;
            for (String round : rounds()) {
                share = share.multiply(BigInteger.valueOf(passes(q, part(round, 0)))).divide(MILLION);
            }
            return share.intValueExact();
        }

        static BigInteger factorial(int n) {
            return n < 2 ? BigInteger.ONE : factorial(n - 1).multiply(BigInteger.valueOf(n));
        }

        static BigInteger choose(int n, int k) {
            return k < 0 || k > n ? BigInteger.ZERO : factorial(n).divide(factorial(k)).divide(factorial(n - k));
        }

        /** Each number from 1 to 30 divides it, so shares of a table's sides are whole. */
        static final long TO_30 = 2329089562800L;

        int doubt(int a, int b, int c, int d) {
            for (int v : new int[] {a, b, c, d}) {
                if (v < 0 || v > 15) {
                    return -2;
                }
            }
            boolean up = (a + b == 0 ? 0 : a * TO_30 / (a + b)) >= (c + d == 0 ? 0 : c * TO_30 / (c + d));
            BigInteger fit = BigInteger.ZERO;
            for (int k = up ? a : 0; k <= (up ? a + b : a); k++) {
                fit = fit.add(choose(a + c, k).multiply(choose(b + d, a + b - k)));
            }
            return fit.multiply(MILLION).divide(choose(a + b + c + d, a + b)).intValueExact();
        }

        int morning(int r, int what) {
            if (what < 0 || what > 4) {
                return -2;
            }
            int x = law(r, 0);
            if (x < 0) {
                return x;
            }
            int[] t = new int[4];
            for (int p : row) {
                int[] v = tally(p, r, r + 1);
                if (v[0] > 0) {
                    t[(2 * (row.indexOf(p) + 1) <= row.size() ? 0 : 2) + (v[1] * 100 >= x * v[0] ? 0 : 1)]++;
                }
            }
            return what < 4 ? t[what] : doubt(t[0], t[1], t[2], t[3]);
        }

        int trial(int p) {
            if (p < 0 || p >= kin.size()) {
                return -2;
            }
            if (onTrial.contains(p)) {
                return -3;
            }
            if (onTrial.size() == 6) {
                return -4;
            }
            onTrial.add(p);
            marks.add(new ArrayList<>());
            return onTrial.size() - 1;
        }

        int week(int place, int mark) {
            if (place < 0 || place >= marks.size() || mark < 0 || mark > 20) {
                return -2;
            }
            if (marks.get(place).size() == 10) {
                return -4;
            }
            marks.get(place).add(mark);
            return marks.get(place).size();
        }

        int better(int a, int b) {
            if (a < 0 || b < 0 || a >= marks.size() || b >= marks.size() || a == b) {
                return -2;
            }
            int weeks = Math.min(marks.get(a).size(), marks.get(b).size());
            int wonA = 0;
            int wonB = 0;
            for (int w = 0; w < weeks; w++) {
                wonA += marks.get(a).get(w) > marks.get(b).get(w) ? 1 : 0;
                wonB += marks.get(a).get(w) < marks.get(b).get(w) ? 1 : 0;
            }
            if (wonA != wonB) {
                return wonA > wonB ? 1 : 0;
            }
            int sumA = marks.get(a).subList(0, weeks).stream().mapToInt(m -> m).sum();
            int sumB = marks.get(b).subList(0, weeks).stream().mapToInt(m -> m).sum();
            return sumA == sumB ? -1 : sumA > sumB ? 1 : 0;
        }

        int seat() {
            int seat = -1;
            for (int a = 0; a < marks.size(); a++) {
                int beaten = 0;
                for (int b = 0; b < marks.size(); b++) {
                    beaten += better(a, b) == 1 ? 1 : 0;
                }
                seat = beaten == marks.size() - 1 ? onTrial.get(a) : seat;
            }
            return seat;
        }

        int hear(int number, int year, int rounds) {
            if (number < 0 || number > 999999 || year < 0 || year > 99 || rounds < 0 || rounds > 4) {
                return -2;
            }
            if (heard.size() == 60) {
                return -4;
            }
            heard.add(new int[] {number, rounds, year});
            return heard.size();
        }

        int known(int number, int what) {
            if (number < 0 || number > 999999 || what < 0 || what > 2) {
                return -2;
            }
            return what == 0 ? (int) heard.stream().filter(h -> h[0] == number).count()
                : heard.stream().filter(h -> h[0] == number).mapToInt(h -> h[what]).max().orElse(-1);
        }

        static boolean noSheet(int s) {
            return s < 0 || s > 3;
        }

        int found(RuntimeException e) {
            finding = e instanceof NullPointerException ? 1 : e instanceof IndexOutOfBoundsException ? 2
                : e instanceof ClassCastException ? 3 : e instanceof ArrayStoreException ? 4 : 5;
            return -10 - finding;
        }

        int sheet(int s, int form, int n) {
            if (noSheet(s) || form < 0 || form > 2 || n > 240) {
                return -2;
            }
            try {
                sheets[s] = form == 0 ? new byte[n] : form == 1 ? new short[n] : new int[n];
                return n;
            } catch (NegativeArraySizeException e) {
                return found(e);
            }
        }

        int lose(int s) {
            if (noSheet(s)) {
                return -2;
            }
            if (sheets[s] == null) {
                return found(new NullPointerException());
            }
            int had = java.lang.reflect.Array.getLength(sheets[s]);
            sheets[s] = null;
            return had;
        }

        int put(int s, int form, int i, int v) {
            if (noSheet(s) || form < 0 || form > 2) {
                return -2;
            }
            try {
                if (form == 0) {
                    ((byte[]) sheets[s])[i] = (byte) v;
                } else if (form == 1) {
                    ((short[]) sheets[s])[i] = (short) v;
                } else {
                    ((int[]) sheets[s])[i] = v;
                }
                return 1;
            } catch (RuntimeException e) {
                return found(e);
            }
        }

        int get(int s, int form, int i) {
            if (noSheet(s) || form < 0 || form > 2) {
                return Integer.MIN_VALUE;
            }
            try {
                return form == 0 ? ((byte[]) sheets[s])[i] : form == 1 ? ((short[]) sheets[s])[i] : ((int[]) sheets[s])[i];
            } catch (RuntimeException e) {
                found(e);
                return Integer.MIN_VALUE;
            }
        }

        int copy(int s, int i, int t, int j, int n) {
            if (noSheet(s) || noSheet(t)) {
                return -2;
            }
            try {
                System.arraycopy(sheets[s], i, sheets[t], j, n);
                return 1;
            } catch (RuntimeException e) {
                return found(e);
            }
        }

        int count(int what) {
            int[] counts = {kin.size(), jurors, text.length(), rounds().length, onTrial.size(), heard.size(), finding};
            return what < 0 || what > 6 ? -2 : counts[what];
        }

        long digest() {
            List<Integer> told = new ArrayList<>();
            for (int what = 0; what < 6; what++) {
                told.add(count(what));
            }
            told.addAll(row);
            for (int k = 0; k < 8 * kin.size(); k++) {
                told.add(votes(k / 8, k % 8 / 2, k % 2));
            }
            told.add(chosen());
            told.add(seat());
            return told.stream().map(Long::valueOf).reduce(17L, (h, v) -> 31 * h + v);
        }
    }

    private final Random random;
    private final ScreenVotes x = new ScreenVotes();
    private final Model m = new Model();
    private final StringBuilder told = new StringBuilder();
    private int calls = 0;

    private ModelTests(long seed) {
        random = new Random(seed);
    }

    /** Mostly from least to most; now and then just outside, or far away. */
    private int near(int least, int most) {
        int kind = random.nextInt(60);
        if (kind == 0) {
            return least - 1;
        }
        if (kind == 1) {
            return most + 1;
        }
        if (kind == 2) {
            return random.nextInt();
        }
        if (kind == 3) {
            return random.nextBoolean() ? Integer.MIN_VALUE : Integer.MAX_VALUE;
        }
        return most < least ? least : least + random.nextInt(most - least + 1);
    }

    private void same(String call, long got, long want) {
        calls++;
        told.append(call).append(" = ").append(got).append('\n');
        if (got != want) {
            wrong++;
            System.out.println(told + "due is " + want);
        }
    }

    private static String call(String name, int... arguments) {
        return name + java.util.Arrays.toString(arguments);
    }

    private void typeByte(int b) {
        same(call("type", b), x.type(b), m.type(b));
        same("fault", x.fault(), m.fault());
    }

    private void typeRound() {
        String[] numbers = {"0", "1", "007", "24", "25", "40", "50", "51", "66", "75", "99", "100", "101", "0001", "0024", "0505", "1000", "02412", ""};
        String letters = random.nextInt(20) == 0 ? "x" : String.valueOf("ands".charAt(random.nextInt(4)));
        String xs = random.nextInt(6) == 0 ? numbers[random.nextInt(numbers.length)] : String.valueOf(1 + random.nextInt(70));
        String ys = random.nextInt(6) == 0 ? numbers[random.nextInt(numbers.length)] : String.valueOf(1 + random.nextInt(8));
        String round = (m.text.length() == 0 ? "" : ";") + "v" + xs + "a" + ys + letters;
        for (int i = 0; i < round.length(); i++) {
            typeByte(round.charAt(i));
        }
    }

    private void fillSheet() {
        int s = random.nextInt(4);
        int form = random.nextInt(3);
        int n = random.nextInt(4) == 0 ? near(0, 240) : Math.min(240, 9 * m.kin.size());
        same(call("sheet", s, form, n), x.sheet(s, form, n), m.sheet(s, form, n));
        for (int i = 0; i < 9 * m.kin.size(); i++) {
            int v = random.nextInt(7) - 1 > 2 ? 1 : random.nextInt(9) == 0 ? -1 : random.nextInt(2);
            same(call("put", s, form, i, v), x.put(s, form, i, v), m.put(s, form, i, v));
        }
    }

    private void step() {
        int players = m.kin.size();
        int a = near(0, 3);
        int b = near(0, 2);
        int c = near(0, 20);
        switch (random.nextInt(40)) {
            case 0: int k = random.nextInt(3) == 0 ? near(0, 511) : 0; same(call("player", k), x.player(k), m.player(k)); break;
            case 1: int j = near(1, 9); same(call("jurors", j), x.jurors(j), m.jurors(j)); break;
            case 2: int seed = random.nextInt(); same(call("draw", seed), x.draw(seed), m.draw(seed)); break;
            case 3: int i = near(0, players - 1); same(call("order", i), x.order(i), m.order(i)); break;
            case 4: int p = near(0, players - 1); int w = near(0, 1); same(call("votes", p, a, w), x.votes(p, a, w), m.votes(p, a, w)); break;
            case 5: if (random.nextInt(8) == 0) { typeByte(near(0, 255)); } break;
            case 6: if (random.nextInt(3) == 0) { same("repeal", x.repeal(), m.repeal()); } break;
            case 7: case 8: typeRound(); break;
            case 9: same(call("law", a, b), x.law(a, b), m.law(a, b)); break;
            case 10: case 11: case 12: same(call("advance", a), x.advance(a), m.advance(a)); break;
            case 13: case 14: case 15: same(call("through", a), x.through(a), m.through(a)); break;
            case 16: case 17: same("chosen", x.chosen(), m.chosen()); break;
            case 18: case 19: same(call("other", a), x.other(a), m.other(a)); break;
            case 20: int q = near(0, 4); int h = near(0, 100); same(call("chance", q, h), x.chance(q, h), m.chance(q, h)); break;
            case 21: int sk = near(0, 4); int xx = near(1, 100); same(call("passes", sk, xx), x.passes(sk, xx), m.passes(sk, xx)); break;
            case 22: int sl = near(0, 4); same(call("all", sl), x.all(sl), m.all(sl)); break;
            case 23: int da = near(0, 15); int db = near(0, 15); int dc = near(0, 15); int dd = near(0, 15);
                same(call("doubt", da, db, dc, dd), x.doubt(da, db, dc, dd), m.doubt(da, db, dc, dd)); break;
            case 24: case 25: int mw = near(0, 4); same(call("morning", a, mw), x.morning(a, mw), m.morning(a, mw)); break;
            case 26: int tp = near(0, players - 1); same(call("trial", tp), x.trial(tp), m.trial(tp)); break;
            case 27: case 28: int wp = near(0, m.marks.size() - 1); int mark = random.nextBoolean() ? near(0, 3) : c;
                same(call("week", wp, mark), x.week(wp, mark), m.week(wp, mark)); break;
            case 29: int ba = near(0, m.marks.size() - 1); int bb = near(0, m.marks.size() - 1);
                same(call("better", ba, bb), x.better(ba, bb), m.better(ba, bb)); break;
            case 30: same("seat", x.seat(), m.seat()); break;
            case 31: int nr = near(0, 5); int y = near(0, 99); int hr = near(0, 4); same(call("hear", nr, y, hr), x.hear(nr, y, hr), m.hear(nr, y, hr)); break;
            case 32: int kn = near(0, 6); same(call("known", kn, b), x.known(kn, b), m.known(kn, b)); break;
            case 33: if (random.nextInt(3) == 0) { fillSheet(); } break;
            case 34: if (random.nextInt(9) == 0) { same(call("lose", a), x.lose(a), m.lose(a)); } break;
            case 35: int pi = near(0, 240); int pv = random.nextInt(); same(call("put", a, b, pi, pv), x.put(a, b, pi, pv), m.put(a, b, pi, pv)); break;
            case 36: int gi = near(0, 240); same(call("get", a, b, gi), x.get(a, b, gi), m.get(a, b, gi)); break;
            case 37: int t = near(0, 3); int ci = near(0, 100); int cj = near(0, 100); int cn = near(0, 120);
                same(call("copy", a, ci, t, cj, cn), x.copy(a, ci, t, cj, cn), m.copy(a, ci, t, cj, cn)); break;
            case 38: int cw = near(0, 6); same(call("count", cw), x.count(cw), m.count(cw)); break;
            default: same("digest", x.digest(), m.digest()); break;
        }
    }

    private void run() {
        int players = random.nextInt(3) == 0 ? random.nextInt(25) : random.nextInt(8);
        for (int p = 0; p < players; p++) {
            int k = random.nextInt(3) == 0 ? random.nextInt(512) : 0;
            same(call("player", k), x.player(k), m.player(k));
        }
        for (int step = 0; step < STEPS && calls < MOST_CALLS - LONGEST_STEP && wrong == 0; step++) {
            step();
        }
        same("count(6)", x.count(6), m.count(6));
    }

    private static void allTables() {
        Model m = new Model();
        for (int t = 0; t < 65536; t += 7) {
            ScreenVotes x = new ScreenVotes();
            int a = t & 15;
            int b = t >> 4 & 15;
            int c = t >> 8 & 15;
            int d = t >> 12;
            if (x.doubt(a, b, c, d) != m.doubt(a, b, c, d)) {
                wrong++;
                System.out.println(call("doubt", a, b, c, d) + " = " + x.doubt(a, b, c, d) + ", due is " + m.doubt(a, b, c, d));
            }
        }
    }

    /** All rows of up to four figures, as x and as y, with a byte behind them or none. */
    private static void allNumbers() {
        for (int figures = 0; figures <= 4; figures++) {
            int rows = (int) Math.pow(10, figures);
            for (int row = 0; row < rows; row++) {
                String number = figures == 0 ? "" : String.format("%0" + figures + "d", row);
                sameFault("v" + number);
                sameFault("v" + number + "a1s");
                sameFault("v1a" + number);
                sameFault("v1a" + number + "s");
            }
        }
    }

    private static void sameFault(String text) {
        ScreenVotes x = new ScreenVotes();
        Model m = new Model();
        for (int i = 0; i < text.length(); i++) {
            x.type(text.charAt(i));
            m.type(text.charAt(i));
        }
        if (x.fault() != m.fault()) {
            wrong++;
            System.out.println("fault of " + text + " = " + x.fault() + ", due is " + m.fault());
        }
    }

    private static void allChances() {
        for (int j = 1; j <= 9; j++) {
            for (int h = 0; h <= 100; h += 3) {
                ScreenVotes x = new ScreenVotes();
                Model m = new Model();
                x.jurors(j);
                m.jurors(j);
                x.chance(0, h);
                m.chance(0, h);
                for (int share = 1; share <= 100; share += 9) {
                    if (x.passes(0, share) != m.passes(0, share)) {
                        wrong++;
                        System.out.println("jurors " + j + ", chance " + h + ", passes(0, " + share + ") is wrong");
                    }
                }
            }
        }
    }

    /** Each call with the greatest of its arguments that may do, or could in some state. */
    private static final String[] LIMITS = {"player 511", "jurors 9", "draw 65535", "order 23", "order 2", "votes 23 3 1",
        "votes 2 3 1", "type 255", "repeal", "fault", "law 3 2", "law 1 2", "advance 3", "advance 1", "through 3",
        "through 1", "chosen", "other 3", "chance 4 100", "passes 4 100", "all 4", "doubt 15 15 15 15", "morning 3 4",
        "morning 1 4", "trial 23", "trial 2", "week 5 20", "week 1 20", "better 5 5", "better 1 1", "seat",
        "hear 999999 99 4", "known 999999 2", "sheet 3 2 240", "lose 3", "put 3 2 239 127", "put 3 2 19 32767",
        "get 3 2 239", "get 3 2 19", "copy 3 239 3 239 240", "copy 3 20 3 19 20", "count 6", "digest"};

    private static final List<String> TELLING = List.of("order", "votes", "fault", "law", "advance", "through", "chosen",
        "other", "passes", "all", "doubt", "morning", "better", "seat", "known", "get", "count", "digest");

    /** Each call at its edges, just outside and far outside them, of an object that is new, in use, and full. */
    private static void allEdges() {
        for (String limit : LIMITS) {
            String[] words = limit.split(" ");
            int[] most = java.util.Arrays.stream(words).skip(1).mapToInt(Integer::parseInt).toArray();
            for (int state = 0; state < 3; state++) {
                ModelTests t = null;
                for (int draw = 0; draw < 1 << 3 * most.length && wrong == 0; draw++) {
                    if (t == null || t.calls > 400) {
                        t = new ModelTests(0);
                        t.bring(state);
                    }
                    boolean changed = t.atEdges(words[0], most, draw);
                    t = changed ? null : t;
                }
            }
        }
    }

    /** Three bits of the draw for each argument; tells whether the call did more than refuse or tell. */
    private boolean atEdges(String name, int[] most, int draw) {
        int[] a = new int[most.length];
        for (int k = 0; k < a.length; k++) {
            int top = most[k];
            int[] edges = {Integer.MIN_VALUE, -1, 0, 1, top - 1, top, top + 1, Integer.MAX_VALUE};
            a[k] = edges[draw >> 3 * k & 7];
        }
        long answer = both(name, a);
        same("digest", x.digest(), m.digest());
        same("count(6)", x.count(6), m.count(6));
        return !TELLING.contains(name) && answer >= -1;
    }

    private void bring(int state) {
        if (state > 0) {
            boolean full = state == 2;
            int players = full ? 24 : 3;
            for (int k = 0; k < players; k++) {
                both("player", new int[] {37 * k & 511});
            }
            for (int s = 0; s < (full ? 4 : 3); s++) {
                both("sheet", new int[] {s, s % 3, full ? 240 : 20});
                for (int i = s; i < (full ? 240 : 20); i += full ? 29 : 3) {
                    both("put", new int[] {s, s % 3, i, i % 4 - 1});
                }
            }
            String text = full ? "v50a3s;".repeat(9).substring(0, 60) : "v40a2d;v1a1s";
            for (int i = 0; i < text.length(); i++) {
                both("type", new int[] {text.charAt(i)});
            }
            for (int place = 0; place < (full ? 6 : 2); place++) {
                both("trial", new int[] {place});
                for (int w = 0; w < (full && place % 5 == 0 ? 10 : 2); w++) {
                    both("week", new int[] {place, place + w});
                }
            }
            for (int h = 0; h < (full ? 60 : 2); h++) {
                both("hear", new int[] {h % 2, h, h % 5});
            }
        }
    }

    private long both(String name, int[] a) {
        long want;
        switch (name) {
            case "player": same(call(name, a), x.player(a[0]), want = m.player(a[0])); break;
            case "jurors": same(call(name, a), x.jurors(a[0]), want = m.jurors(a[0])); break;
            case "draw": same(call(name, a), x.draw(a[0]), want = m.draw(a[0])); break;
            case "order": same(call(name, a), x.order(a[0]), want = m.order(a[0])); break;
            case "votes": same(call(name, a), x.votes(a[0], a[1], a[2]), want = m.votes(a[0], a[1], a[2])); break;
            case "type": same(call(name, a), x.type(a[0]), want = m.type(a[0])); break;
            case "repeal": same(call(name, a), x.repeal(), want = m.repeal()); break;
            case "fault": same(call(name, a), x.fault(), want = m.fault()); break;
            case "law": same(call(name, a), x.law(a[0], a[1]), want = m.law(a[0], a[1])); break;
            case "advance": same(call(name, a), x.advance(a[0]), want = m.advance(a[0])); break;
            case "through": same(call(name, a), x.through(a[0]), want = m.through(a[0])); break;
            case "chosen": same(call(name, a), x.chosen(), want = m.chosen()); break;
            case "other": same(call(name, a), x.other(a[0]), want = m.other(a[0])); break;
            case "chance": same(call(name, a), x.chance(a[0], a[1]), want = m.chance(a[0], a[1])); break;
            case "passes": same(call(name, a), x.passes(a[0], a[1]), want = m.passes(a[0], a[1])); break;
            case "all": same(call(name, a), x.all(a[0]), want = m.all(a[0])); break;
            case "doubt": same(call(name, a), x.doubt(a[0], a[1], a[2], a[3]), want = m.doubt(a[0], a[1], a[2], a[3])); break;
            case "morning": same(call(name, a), x.morning(a[0], a[1]), want = m.morning(a[0], a[1])); break;
            case "trial": same(call(name, a), x.trial(a[0]), want = m.trial(a[0])); break;
            case "week": same(call(name, a), x.week(a[0], a[1]), want = m.week(a[0], a[1])); break;
            case "better": same(call(name, a), x.better(a[0], a[1]), want = m.better(a[0], a[1])); break;
            case "seat": same(call(name, a), x.seat(), want = m.seat()); break;
            case "hear": same(call(name, a), x.hear(a[0], a[1], a[2]), want = m.hear(a[0], a[1], a[2])); break;
            case "known": same(call(name, a), x.known(a[0], a[1]), want = m.known(a[0], a[1])); break;
            case "sheet": same(call(name, a), x.sheet(a[0], a[1], a[2]), want = m.sheet(a[0], a[1], a[2])); break;
            case "lose": same(call(name, a), x.lose(a[0]), want = m.lose(a[0])); break;
            case "put": same(call(name, a), x.put(a[0], a[1], a[2], a[3]), want = m.put(a[0], a[1], a[2], a[3])); break;
            case "get": same(call(name, a), x.get(a[0], a[1], a[2]), want = m.get(a[0], a[1], a[2])); break;
            case "copy": same(call(name, a), x.copy(a[0], a[1], a[2], a[3], a[4]), want = m.copy(a[0], a[1], a[2], a[3], a[4])); break;
            case "count": same(call(name, a), x.count(a[0]), want = m.count(a[0])); break;
            case "digest": same(call(name, a), x.digest(), want = m.digest()); break;
            default: throw new IllegalArgumentException(name);
        }
        return want;
    }

    public static void main(String[] args) {
        allTables();
        allChances();
        allNumbers();
        allEdges();
        for (int run = 0; run < RUNS && wrong == 0; run++) {
            new ModelTests(run).run();
        }
        System.out.println(wrong == 0 ? "the class answers as the model does" : wrong + " answers differ from the model's");
        if (wrong != 0) {
            System.exit(1);
        }
    }
}
