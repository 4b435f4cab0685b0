import java.util.ArrayList;
import java.util.HashMap;
import java.util.List;
import java.util.Map;

/**
 * The document told a second time, in another way: algebras as full tables, what turns forms about by elimination,
 * sums as maps from rows of elements, parts by joining pieces. RandomTest holds the class against it.
 */
final class Model {
    static final int P = 9973;
    static final String LETTERS = "omwcxhk";

    List<int[]> algebras = new ArrayList<>();
    String[] surfaces = {"", "", "", ""};
    List<int[]> plan = new ArrayList<>();
    String tape = "", paper = "";
    int[][] lists = new int[4][];
    List<int[]> imageAlgebras, imagePlan;
    String[] imageSurfaces;

    /** An algebra's tables: product[i][j][k] and all that comes of them. */
    static final class Tables {
        int n;
        long[][][] product, split;
        long[][] form, turned;
        long[] trace, one, handle, cross;

        Tables(int kind, int size, int figure) {
            n = kind == 4 ? (int) Math.pow(2, size) : size;
            product = new long[n][n][n];
            trace = new long[n];
            one = new long[n];
            for (int i = 0; i < n; i++) {
                trace[i] = kind == 0 ? 1 : kind == 1 ? figure + i + 1 : kind == 2 ? (i == 0 ? 1 : 0) : i == n - 1 ? 1 : 0;
                one[i] = kind < 2 || i == 0 ? 1 : 0;
                for (int j = 0; j < n; j++) {
                    if (kind < 2 && i == j) {
                        product[i][j][i] = 1;
                    } else if (kind == 2 || kind == 3) {
                        product[i][j][(i + j) % n] = kind == 3 && i + j >= n ? figure : 1;
                    } else if (kind == 4 && (i & j) == 0) {
                        product[i][j][i + j] = i == 2 && j == 1 ? P - 1 : 1;
                    }
                }
            }
            derive();
        }

        private void derive() {
            form = new long[n][n];
            for (int i = 0; i < n; i++) {
                for (int j = 0; j < n; j++) {
                    form[i][j] = dot(product[i][j], trace);
                }
            }
            turned = inverse(form);
            handle = new long[n];
            cross = new long[n];
            split = new long[n][n][n];
            for (int i = 0; i < n; i++) {
                for (int k = 0; k < n; k++) {
                    cross[k] = (cross[k] + product[i][i][k]) % P;
                    for (int j = 0; j < n; j++) {
                        handle[k] = (handle[k] + turned[i][j] * product[i][j][k]) % P;
                        for (int e = 0; e < n; e++) {
                            split[e][k][j] = (split[e][k][j] + turned[i][j] * product[e][i][k]) % P;
                        }
                    }
                }
            }
        }

        static long dot(long[] a, long[] b) {
            long all = 0;
            for (int i = 0; i < a.length; i++) {
                all += a[i] * b[i];
            }
            return all % P;
        }

        long[] times(long[] a, long[] b) {
            long[] c = new long[n];
            for (int i = 0; i < n; i++) {
                for (int j = 0; j < n; j++) {
                    for (int k = 0; k < n; k++) {
                        c[k] = (c[k] + a[i] * b[j] % P * product[i][j][k]) % P;
                    }
                }
            }
            return c;
        }

        long closed(int h, int c) {
            long[] what = one.clone();
            for (int i = 0; i < h; i++) {
                what = times(what, handle);
            }
            for (int i = 0; i < c; i++) {
                what = times(what, cross);
            }
            return dot(what, trace);
        }

        static long[][] inverse(long[][] m) {
            int n = m.length;
            long[][] a = new long[n][2 * n];
            for (int i = 0; i < n; i++) {
                System.arraycopy(m[i], 0, a[i], 0, n);
                a[i][n + i] = 1;
            }
            for (int col = 0; col < n; col++) {
                int pivot = col;
                while (a[pivot][col] == 0) {
                    pivot++;
                }
                long[] t = a[pivot];
                a[pivot] = a[col];
                a[col] = t;
                long inv = 1;
                while (inv * a[col][col] % P != 1) {
                    inv++;
                }
                for (int j = 0; j < 2 * n; j++) {
                    a[col][j] = a[col][j] * inv % P;
                }
                for (int i = 0; i < n; i++) {
                    long f = a[i][col];
                    for (int j = 0; i != col && j < 2 * n; j++) {
                        a[i][j] = ((a[i][j] - f * a[col][j]) % P + P) % P;
                    }
                }
            }
            long[][] r = new long[n][n];
            for (int i = 0; i < n; i++) {
                System.arraycopy(a[i], n, r[i], 0, n);
            }
            return r;
        }
    }

    static int circles(String s) {
        int c = 0;
        for (char p : s.toCharArray()) {
            c += p == 'o' || p == 'w' ? 1 : p == 'm' || p == 'c' ? -1 : 0;
        }
        return c;
    }

    static boolean can(String s, char p) {
        int c = circles(s);
        return p == 'o' ? c < 3 : p == 'w' ? c == 1 || c == 2 : p == 'm' || p == 'x' ? c > 1 : c > 0;
    }

    static boolean overfull(String s) {
        for (int i = 0; i <= s.length(); i++) {
            if (circles(s.substring(0, i)) > 3) {
                return true;
            }
        }
        return false;
    }

    /** rims, euler, one-sided of each part, and behind them, as the last row, the part of each circle. */
    static int[][] parts(String s) {
        int n = s.length();
        int[] root = new int[n];
        List<Integer> row = new ArrayList<>();
        int[] owner = new int[n];
        for (int i = 0; i < n; i++) {
            root[i] = i;
            owner[i] = -1;
            char p = s.charAt(i);
            int c = row.size();
            if (p == 'o') {
                row.add(i);
            } else if (p == 'x') {
                row.add(c - 2, row.remove(c - 1));
                continue;
            } else if (p == 'm') {
                int b = find(root, row.remove(c - 1));
                int a = find(root, row.get(c - 2));
                root[Math.max(a, b)] = Math.min(a, b);
            } else if (p == 'w') {
                row.add(row.get(c - 1));
            }
            owner[i] = row.get(row.size() - 1);
            if (p == 'c') {
                row.remove(c - 1);
            }
        }
        List<Integer> roots = new ArrayList<>();
        for (int i = 0; i < n; i++) {
            if (s.charAt(i) == 'o' && find(root, i) == i) {
                roots.add(i);
            }
        }
        int[][] all = new int[roots.size() + 1][3];
        for (int i = 0; i < n; i++) {
            if (owner[i] >= 0) {
                int[] part = all[roots.indexOf(find(root, owner[i]))];
                char p = s.charAt(i);
                part[1] += p == 'o' || p == 'c' ? 1 : p == 'h' ? -2 : -1;
                part[2] |= p == 'k' ? 1 : 0;
            }
        }
        int[] of = new int[row.size()];
        for (int i = 0; i < of.length; i++) {
            of[i] = roots.indexOf(find(root, row.get(i)));
            all[of[i]][0]++;
        }
        all[roots.size()] = of;
        return all;
    }

    private static int find(int[] root, int i) {
        return root[i] == i ? i : find(root, root[i]);
    }

    static Map<String, Integer> tally(String s) {
        Map<String, Integer> m = new HashMap<>();
        int[][] parts = parts(s);
        for (int k = 0; k < parts.length - 1; k++) {
            m.merge(parts[k][0] + " " + parts[k][1] + " " + parts[k][2], 1, Integer::sum);
        }
        return m;
    }

    private static void add(Map<List<Integer>, Long> sum, List<Integer> row, int drop, long value, int... more) {
        if (value % P == 0) {
            return;
        }
        List<Integer> to = new ArrayList<>(row.subList(0, row.size() - drop));
        for (int e : more) {
            to.add(e);
        }
        sum.merge(to, value % P, (a, b) -> (a + b) % P);
    }

    long[] sums(String s, int algebra) {
        int[] told = algebras.get(algebra);
        Tables t = new Tables(told[0], told[1], told[2]);
        int n = t.n;
        Map<List<Integer>, Long> now = new HashMap<>();
        now.put(new ArrayList<>(), 1L);
        for (char p : s.toCharArray()) {
            Map<List<Integer>, Long> next = new HashMap<>();
            for (Map.Entry<List<Integer>, Long> entry : now.entrySet()) {
                List<Integer> row = entry.getKey();
                long v = entry.getValue();
                int c = row.size();
                int b = c > 0 ? row.get(c - 1) : 0;
                int a = c > 1 ? row.get(c - 2) : 0;
                if (p == 'c') {
                    add(next, row, 1, v * t.trace[b]);
                } else if (p == 'x') {
                    boolean minus = told[0] == 4 && (a == 1 || a == 2) && (b == 1 || b == 2);
                    add(next, row, 2, minus ? P - v : v, b, a);
                }
                for (int k = 0; k < n; k++) {
                    if (p == 'o') {
                        add(next, row, 0, v * t.one[k], k);
                    } else if (p == 'm') {
                        add(next, row, 2, v * t.product[a][b][k], k);
                    }
                    for (int j = 0; j < n; j++) {
                        if (p == 'w') {
                            add(next, row, 1, v * t.split[b][k][j], k, j);
                        } else if (p == 'h' || p == 'k') {
                            add(next, row, 1, v * ((p == 'h' ? t.handle : t.cross)[j] * t.product[b][j][k] % P), k);
                        }
                    }
                }
            }
            now = next;
        }
        int places = (int) Math.pow(n, circles(s));
        long[] result = new long[places];
        for (Map.Entry<List<Integer>, Long> entry : now.entrySet()) {
            int place = 0;
            for (int i = entry.getKey().size() - 1; i >= 0; i--) {
                place = place * n + entry.getKey().get(i);
            }
            result[place] = entry.getValue();
        }
        return result;
    }

    static String drawn(String s, int n, int seed) {
        for (int i = 0, z = seed; i < n; i++) {
            z = z * 1103515245 + 12345;
            char p = LETTERS.charAt((z >>> 16) % 7);
            s = can(s, p) && s.length() < 24 ? s + p : s;
        }
        return s;
    }

    String planned(String s) {
        for (int[] row : plan) {
            if (row[0] == 0) {
                char p = LETTERS.charAt(row[1]);
                s = can(s, p) && s.length() < 24 ? s + p : s;
            } else if (row[0] == 1) {
                s = s.substring(0, Math.max(0, s.length() - row[1]));
            } else {
                String both = s + surfaces[row[1]];
                s = both.length() > 24 || overfull(both) ? s : both;
            }
        }
        return s;
    }

    int readTape(int surface) {
        String text = tape;
        tape = "";
        String s = "";
        for (int i = 0; i < text.length(); i++) {
            char c = text.charAt(i);
            boolean figure = "23456789".indexOf(c) >= 0 && i > 0 && LETTERS.indexOf(text.charAt(i - 1)) >= 0;
            if (!figure && LETTERS.indexOf(c) < 0) {
                return -100 - i;
            }
            char p = figure ? text.charAt(i - 1) : c;
            for (int k = figure ? c - '0' : 2; k > 1; k--) {
                if (!can(s, p) || s.length() == 24) {
                    return -100 - i;
                }
                s += p;
            }
        }
        if (text.isEmpty()) {
            return -100;
        }
        surfaces[surface] = s;
        return s.length();
    }
}
