import java.util.ArrayList;
import java.util.List;
import java.util.Map;
import java.util.Random;

/** Runs of 512 calls by fixed seeds, each call's answer held against the Model's. */
public final class RandomTest {
    private static final long NO = Long.MIN_VALUE;
    private static final int[] WILD = {-1, -2, 4, 5, 6, 7, 9, 10, 11, 12, 13, 20, 21, 24, 25, 30, 31, 60, 215, 216, 9972, 9973,
        Integer.MIN_VALUE, Integer.MAX_VALUE, Integer.MIN_VALUE + 1, Integer.MAX_VALUE - 1};

    private final SurfaceSums x = new SurfaceSums();
    private final Model m = new Model();
    private final Random random;
    private final boolean wild;

    private RandomTest(long seed) {
        random = new Random(seed);
        wild = seed % 3 == 0;
    }

    public static void main(String[] args) {
        int runs = args.length > 0 ? Integer.parseInt(args[0]) : 150;
        for (int seed = 0; seed < runs; seed++) {
            RandomTest run = new RandomTest(seed);
            for (int i = 0; i < 512; i++) {
                run.call("seed " + seed + " call " + i + ": ");
            }
        }
        Due.end();
    }

    /** A number below bound, now and then one that is not. */
    private int r(int bound) {
        int odd = random.nextInt(wild ? 6 : 60);
        if (odd == 0) {
            return WILD[random.nextInt(WILD.length)];
        }
        return odd == 1 ? bound : random.nextInt(bound);
    }

    private boolean algebra(int a) {
        return a >= 0 && a < m.algebras.size();
    }

    private static boolean four(int s) {
        return s >= 0 && s < 4;
    }

    private static boolean within(int v, int low, int high) {
        return v >= low && v <= high;
    }

    private Model.Tables tables(int a) {
        int[] told = m.algebras.get(a);
        return new Model.Tables(told[0], told[1], told[2]);
    }

    private void call(String at) {
        switch (random.nextInt(10)) {
            case 0: makeAlgebra(at); break;
            case 1: askAlgebra(at); break;
            case 2: askClosed(at); break;
            case 3: tell(at); break;
            case 4: build(at); break;
            case 5: askParts(at); break;
            case 6: askSums(at); break;
            case 7: askPlan(at); break;
            case 8: askLists(at); break;
            default: askImage(at); break;
        }
    }

    private void makeAlgebra(String at) {
        int kind = r(5), size = random.nextInt(8) == 0 ? r(8) : 1 + r(kind == 4 ? 2 : 6), figure = r(10);
        int due = !within(kind, 0, 4) ? -1 : size < 1 || size > (kind == 4 ? 2 : 6) || !within(figure, 0, 9) ? -2
                : m.algebras.size() == 4 ? -4 : m.algebras.size();
        Due.is(at + "algebra " + kind + " " + size + " " + figure, x.algebra(kind, size, figure), due);
        if (due >= 0) {
            m.algebras.add(new int[] {kind, size, figure});
        }
        int a = r(4), v = r(10);
        due = !algebra(a) ? -1 : !within(v, 0, 9) ? -2 : m.algebras.get(a)[2];
        Due.is(at + "becomes " + a + " " + v, x.becomes(a, v), due);
        if (due >= 0) {
            m.algebras.get(a)[2] = v;
        }
        int what = r(4);
        due = !algebra(a) || !within(what, 0, 3) ? -1 : what < 3 ? m.algebras.get(a)[what] : tables(a).n;
        Due.is(at + "of", x.of(a, what), due);
    }

    private void askAlgebra(String at) {
        int a = r(4), i = r(6), j = r(6), k = r(6), what = r(2), which = r(4);
        Model.Tables t = algebra(a) ? tables(a) : null;
        boolean two = t != null && within(i, 0, t.n - 1) && within(j, 0, t.n - 1);
        boolean three = two && within(k, 0, t.n - 1);
        Due.is(at + "product", x.product(a, i, j, k), three ? t.product[i][j][k] : -1);
        Due.is(at + "split", x.split(a, i, j, k), three ? t.split[i][j][k] : -1);
        Due.is(at + "form", x.form(a, i, j, what), !two || !within(what, 0, 1) ? -1 : (what == 0 ? t.form : t.turned)[i][j]);
        boolean one = t != null && within(i, 0, t.n - 1) && within(which, 0, 3);
        Due.is(at + "element", x.element(a, i, which),
                !one ? -1 : new long[][] {t.trace, t.one, t.handle, t.cross}[which][i]);
    }

    private void askClosed(String at) {
        int a = r(4), h = r(21), c = r(random.nextBoolean() ? 3 : 21), v = random.nextBoolean() ? r(40) : r(9973);
        boolean both = within(h, 0, 20) && within(c, 0, 20);
        long closed = !algebra(a) ? -1 : !both ? -2 : tables(a).closed(h, c);
        Due.is(at + "closed", x.closed(a, h, c), closed);
        v = closed >= 0 && random.nextBoolean() ? (int) closed : v;
        long due = !algebra(a) ? -1 : !within(c, 0, 20) ? -2 : -5;
        for (int n = 20; due != -1 && due != -2 && n >= 0; n--) {
            due = tables(a).closed(n, c) == v ? n : due;
        }
        Due.is(at + "handles " + a + " " + c + " " + v, x.handles(a, c, v), due);
        due = !algebra(a) ? -1 : !both ? -2 : 0;
        for (int f = 0; due >= 0 && f < 10; f++) {
            due += new Model.Tables(m.algebras.get(a)[0], m.algebras.get(a)[1], f).closed(h, c) == v ? 1 << f : 0;
        }
        Due.is(at + "were", x.were(a, h, c, v), due);
    }

    private void tell(String at) {
        int letters = random.nextInt(random.nextInt(20) == 0 ? 70 : 14);
        String usual = "ooowwmmcxhhkk23";
        for (int i = 0; i < letters; i++) {
            int letter = random.nextInt(wild ? 12 : 80) == 0 ? r(128) : usual.charAt(random.nextInt(usual.length()));
            if (i == 0 && m.tape.isEmpty()) {
                letter = 'o';
            }
            if (letters < 60 && !wild && letter > '9' && LETTERS(letter) && !Model.can(text(m.tape), (char) letter)) {
                continue;
            }
            int due = !within(letter, 1, 127) ? -2 : m.tape.length() == 60 ? -4 : m.tape.length() + 1;
            Due.is(at + "feed " + letter, x.feed(letter), due);
            m.tape += due > 0 ? String.valueOf((char) letter) : "";
        }
        int s = r(4);
        String before = m.tape;
        Due.is(at + "surface " + s + " " + before, x.surface(s), four(s) ? m.readTape(s) : -1);
        same(at);
    }

    private static boolean LETTERS(int letter) {
        return Model.LETTERS.indexOf(letter) >= 0;
    }

    /** A tape's letters without its figures: near enough to choose the next letter by. */
    private static String text(String tape) {
        return tape.replaceAll("[^omwcxhk]", "");
    }

    private void build(String at) {
        int s = r(4), p = r(7), t = r(4), which = random.nextInt(8);
        String now = four(s) ? m.surfaces[s] : "";
        if (which < 5) {
            int due = !four(s) || !within(p, 0, 6) ? -1 : !Model.can(now, Model.LETTERS.charAt(p)) ? -3
                    : now.length() == 24 ? -4 : now.length() + 1;
            Due.is(at + "piece " + s + " " + p, x.piece(s, p), due);
            if (due > 0) {
                m.surfaces[s] += Model.LETTERS.charAt(p);
            }
        } else if (which == 5) {
            String both = now + (four(t) ? m.surfaces[t] : "");
            int due = !four(s) || !four(t) ? -1 : Model.overfull(both) ? -3 : both.length() > 24 ? -4 : both.length();
            Due.is(at + "glue " + s + " " + t, x.glue(s, t), due);
            if (due >= 0) {
                m.surfaces[s] = both;
            }
        } else if (which == 6) {
            int k = r(random.nextBoolean() ? 24 : 8);
            int due = !four(s) ? -1 : !within(k, 0, now.length()) ? -2 : now.length();
            Due.is(at + "cut " + s + " " + k, x.cut(s, k), due);
            if (due >= 0) {
                m.surfaces[s] = now.substring(0, k);
            }
        } else {
            int n = r(25), seed = random.nextInt();
            String drawn = !four(s) || !within(n, 1, 24) ? now : Model.drawn(now, n, seed);
            Due.is(at + "draws", x.draws(s, n, seed), !four(s) ? -1 : !within(n, 1, 24) ? -2 : drawn.length());
            if (four(s)) {
                m.surfaces[s] = drawn;
            }
            askOdds(at, r(25), r(31), r(2), random.nextBoolean() ? seed : Integer.MAX_VALUE - 3);
        }
        same(at);
    }

    private void askOdds(String at, int n, int many, int part, int seed) {
        long due = NO;
        if (within(n, 1, 24) && within(many, 1, 30) && within(part, 0, 1)) {
            int above = 0;
            for (int i = 0; i < many; i++) {
                above += Model.circles(Model.drawn("", n, seed + i)) == 0 ? 1 : 0;
            }
            int d = many;
            while (above % d != 0 || many % d != 0) {
                d--;
            }
            due = (part == 0 ? above : many) / d;
        }
        Due.is(at + "odds " + n + " " + seed + " " + many + " " + part, x.odds(n, seed, many, part), due);
    }

    /** All surfaces are as the model's. */
    private void same(String at) {
        for (int s = 0; s < 4; s++) {
            String is = m.surfaces[s];
            Due.is(at + "pieces of " + s, x.shape(s, 0), is.length());
            if (!is.isEmpty()) {
                int i = random.nextInt(is.length());
                Due.is(at + "pieceOf", x.pieceOf(s, i), Model.LETTERS.indexOf(is.charAt(i)));
            }
            Due.is(at + "pieceOf", x.pieceOf(s, is.length()), -1);
        }
    }

    private void askParts(String at) {
        int s = r(4), t = r(4), what = r(6), k = r(3), circle = r(3), which = r(4);
        String now = four(s) ? m.surfaces[s] : "";
        int[][] parts = Model.parts(now);
        int n = parts.length - 1, euler = 0, closed = 0;
        for (int i = 0; i < n; i++) {
            euler += parts[i][1];
            closed += parts[i][0] == 0 ? 1 : 0;
        }
        int[] shape = {now.length(), Model.circles(now), n, Model.tally(now).size(), closed, 100 + euler};
        Due.is(at + "shape " + now + " " + what, x.shape(s, what), !four(s) || !within(what, 0, 5) ? -1 : shape[what]);
        int due = -1;
        if (four(s) && within(k, 0, n - 1) && within(which, 0, 3)) {
            int twice = 2 - parts[k][1] - parts[k][0];
            due = which == 3 ? (parts[k][2] == 1 ? twice : twice / 2) : parts[k][which] + (which == 1 ? 100 : 0);
        }
        Due.is(at + "part " + now + " " + k + " " + which, x.part(s, k, which), due);
        Due.is(at + "rim " + now + " " + circle, x.rim(s, circle),
                !four(s) || !within(circle, 0, Model.circles(now) - 1) ? -1 : parts[n][circle]);
        due = !four(s) || !four(t) ? -1 : 0;
        if (due == 0) {
            Map<String, Integer> other = Model.tally(m.surfaces[t]);
            for (Map.Entry<String, Integer> e : Model.tally(now).entrySet()) {
                due += Math.min(e.getValue(), other.getOrDefault(e.getKey(), 0));
            }
        }
        Due.is(at + "match", x.match(s, t), due);
        Due.is(at + "write", x.write(s), four(s) ? now.length() : -1);
        m.paper = four(s) ? now : m.paper;
        int i = r(24);
        Due.is(at + "paper", x.paper(i), within(i, 0, m.paper.length() - 1) ? m.paper.charAt(i) : -1);
    }

    private void askSums(String at) {
        int s = r(4), t = r(4), a = r(4), what = r(4), place = random.nextInt(3) == 0 ? r(216) : r(8);
        boolean fine = four(s) && algebra(a);
        long[] sums = fine ? m.sums(m.surfaces[s], a) : new long[0];
        Due.is(at + "sum", x.sum(s, a, place), fine && within(place, 0, sums.length - 1) ? sums[place] : -1);
        long together = 0;
        int many = 0, first = -5;
        for (int i = sums.length - 1; i >= 0; i--) {
            together = (together + sums[i]) % Model.P;
            many += sums[i] != 0 ? 1 : 0;
            first = sums[i] != 0 ? i : first;
        }
        Due.is(at + "total " + what, x.total(s, a, what),
                !fine || !within(what, 0, 3) ? -1 : new long[] {sums.length, many, first, together}[what]);
        for (int i = 0; i < sums.length && random.nextInt(40) == 0; i++) {
            Due.is(at + "sum " + i, x.sum(s, a, i), sums[i]);
        }
        boolean both = fine && four(t);
        Due.is(at + "alike", x.alike(s, t, a), !both ? -1
                : Model.circles(m.surfaces[s]) == Model.circles(m.surfaces[t])
                && java.util.Arrays.equals(sums, m.sums(m.surfaces[t], a)) ? 1 : 0);
        judge(at, s, a, sums);
    }

    private void judge(String at, int s, int a, long[] sums) {
        int list = r(4);
        boolean fine = four(s) && algebra(a);
        if (four(list) && fine && random.nextBoolean() && m.lists[list] != null) {
            for (int i = 0; i < m.lists[list].length; i++) {
                m.lists[list][i] = i < sums.length ? (int) sums[i] : 0;
                Due.is(at + "put", x.put(list, i, m.lists[list][i]), 1);
            }
        }
        int due = !four(list) || !fine ? -1 : m.lists[list] == null ? -11 : -5;
        for (int i = 0; due == -5 && i < m.lists[list].length; i++) {
            due = m.lists[list][i] != (i < sums.length ? sums[i] : 0) ? i : -5;
        }
        Due.is(at + "judge", x.judge(list, s, a), due);
    }

    private void askPlan(String at) {
        int what = r(12) % 4 - (random.nextInt(30) == 0 ? 1 : 0), v = r(10);
        int[] low = {0, 1, 0}, high = {6, 9, 3};
        int due = !within(what, -1, 2) ? -1 : what == -1 ? 0 : !within(v, low[what], high[what]) ? -2
                : m.plan.size() == 8 ? -4 : m.plan.size() + 1;
        Due.is(at + "plan " + what + " " + v, x.plan(what, v), due);
        if (due == 0) {
            m.plan.clear();
        } else if (due > 0) {
            m.plan.add(new int[] {what, v});
        }
        int s = r(4);
        for (int ask : new int[] {0, 1, 2, 10 + r(4), r(14)}) {
            boolean can = four(s) && (within(ask, 0, 2) || algebra(ask - 10) && ask >= 10);
            String thought = can ? m.planned(m.surfaces[s]) : "";
            long answer = !can ? -1 : ask == 0 ? thought.length() : ask == 1 ? Model.circles(thought)
                    : ask == 2 ? Model.parts(thought).length - 1 : 0;
            if (can && ask >= 10) {
                for (long number : m.sums(thought, ask - 10)) {
                    answer = (answer + number) % Model.P;
                }
            }
            Due.is(at + "behind " + s + " " + ask, x.behind(s, ask), answer);
        }
    }

    private void askLists(String at) {
        int list = r(4), n = r(13), i = r(12), v = random.nextBoolean() ? r(10) : random.nextInt();
        if (random.nextInt(4) == 0) {
            int due = !four(list) ? -1 : n > 12 ? -2 : n < 0 ? -14 : 1;
            Due.is(at + "list " + list + " " + n, x.list(list, n), due);
            if (due == 1) {
                m.lists[list] = new int[n];
            }
        }
        boolean held = four(list) && m.lists[list] != null, place = held && within(i, 0, m.lists[list].length - 1);
        Due.is(at + "put", x.put(list, i, v), !four(list) ? -1 : !held ? -11 : !place ? -13 : 1);
        if (place) {
            m.lists[list][i] = v;
        }
        i = r(12);
        place = held && within(i, 0, m.lists[list].length - 1);
        Due.is(at + "get", x.get(list, i), place ? m.lists[list][i] : NO);
    }

    private static List<int[]> copy(List<int[]> rows) {
        List<int[]> all = new ArrayList<>();
        for (int[] row : rows) {
            all.add(row.clone());
        }
        return all;
    }

    private void askImage(String at) {
        int which = random.nextInt(6);
        if (which == 0) {
            Due.is(at + "image", x.image(), m.algebras.size());
            m.imageAlgebras = copy(m.algebras);
            m.imagePlan = copy(m.plan);
            m.imageSurfaces = m.surfaces.clone();
        } else if (which == 1) {
            Due.is(at + "undo", x.undo(), m.imagePlan == null ? -3 : m.imageAlgebras.size());
            if (m.imagePlan != null) {
                m.algebras = copy(m.imageAlgebras);
                m.plan = copy(m.imagePlan);
                m.surfaces = m.imageSurfaces.clone();
            }
            same(at);
        }
        int pieces = 0;
        for (String s : m.surfaces) {
            pieces += s.length();
        }
        int what = r(5);
        int[] counts = {m.algebras.size(), pieces, m.tape.length(), m.paper.length(), m.plan.size()};
        Due.is(at + "count " + what, x.count(what), within(what, 0, 4) ? counts[what] : -2);
    }
}
