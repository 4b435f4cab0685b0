/** Edges of promises 1 to 11 and of the first part of the terms: by each sentence that names one a test of its own. */
public final class AlgebraEdgeTest {
    private static final int LOW = Integer.MIN_VALUE, HIGH = Integer.MAX_VALUE;
    private static final int[] KINDS = {0, 1, 2, 3, 4};

    public static void main(String[] args) {
        newObject();
        modulo();
        algebrasAsTheyCome();
        figures();
        sizes();
        elements();
        points();
        scaled();
        cycle();
        twist();
        graded();
        turned();
        derived();
        closedNoTimes();
        closedMostTimes();
        handlesLeast();
        handlesBeyond();
        were();
        wereWhatDoesNotMatter();
        becomesAtOnce();
        Due.end();
    }

    private static int mostSize(int kind) {
        return kind == 4 ? 2 : 6;
    }

    private static SurfaceSums with(int kind, int size, int figure) {
        SurfaceSums x = new SurfaceSums();
        Due.is("algebra of kind " + kind + " size " + size, x.algebra(kind, size, figure), 0);
        return x;
    }

    /** "No ALGEBRAS; SURFACES without PIECES." */
    private static void newObject() {
        SurfaceSums x = new SurfaceSums();
        for (int what = 0; what < 5; what++) {
            Due.is("1 count " + what, x.count(what), 0);
        }
        for (int n = 0; n < 4; n++) {
            Due.is("1 no algebra", x.of(n, 0), -1);
            Due.is("1 no piece", x.pieceOf(n, 0), -1);
            Due.is("1 no part", x.part(n, 0, 0), -1);
            Due.is("1 no circle", x.rim(n, 0), -1);
            Due.is("1 no list", x.get(n, 0), SurfaceSums.NO);
        }
        Due.is("1 no paper", x.paper(0), -1);
        Due.is("1 no image", x.undo(), -3);
        Due.is("1 an empty tape", x.surface(0), -100);
    }

    /** "All numbers of an algebra are taken MODULO 9973 (0 .. 9972)." */
    private static void modulo() {
        SurfaceSums x = with(4, 2, 0);
        Due.is("M below 0: product", x.product(0, 2, 1, 3), 9972);
        Due.is("M below 0: form", x.form(0, 2, 1, 0), 9972);
        Due.is("M below 0: turned", x.form(0, 1, 2, 1), 9972);
        Due.is("M below 0: split", x.split(0, 0, 1, 2), 9972);
        x = with(2, 2, 0);
        // 2 to the h-th.
        Due.is("M the last below 9973", x.closed(0, 13, 0), 8192);
        Due.is("M the first above 9973", x.closed(0, 14, 0), 16384 - 9973);
        Due.is("M far above", x.closed(0, 20, 0), 1048576 - 105 * 9973);
        // 3 times the last: to the 4th 81 times 81, or 6561, times the last; 7129 of that, by the cross.
        Due.is("M the greatest", with(3, 3, 9).closed(0, 4, 3), 9972);
    }

    /** "ALGEBRAS 0 .. 3, as they come"; "FULL: four." */
    private static void algebrasAsTheyCome() {
        SurfaceSums x = new SurfaceSums();
        for (int n = 0; n < 4; n++) {
            Due.is("2 not yet", x.of(n, 0), -1);
            Due.is("2 refused takes no number", x.algebra(0, 7, 0), -2);
            Due.is("2 the next", x.algebra(n, 1, 0), n);
            Due.is("2 kind", x.of(n, 0), n);
        }
        Due.is("2 full", x.algebra(4, 1, 0), -4);
        Due.is("2 the last stays", x.of(3, 0), 3);
        Due.is("2 no fifth", x.of(4, 0), -1);
    }

    /** "FIGURE (0 .. 9)" */
    private static void figures() {
        for (int kind : KINDS) {
            SurfaceSums x = new SurfaceSums();
            for (int figure : new int[] {-1, 10, LOW, HIGH}) {
                Due.is("2 figure " + figure, x.algebra(kind, 1, figure), -2);
            }
            Due.is("2 least figure", x.algebra(kind, 1, 0), 0);
            Due.is("2 greatest figure", x.algebra(kind, 1, 9), 1);
            for (int figure : new int[] {-1, 10, LOW, HIGH}) {
                Due.is("3 figure " + figure, x.becomes(0, figure), -2);
            }
            Due.is("3 greatest", x.becomes(0, 9), 0);
            Due.is("3 least", x.becomes(0, 0), 9);
            Due.is("3 the same", x.becomes(0, 0), 0);
            Due.is("3 the other one", x.of(1, 2), 9);
        }
    }

    /** "SIZE n 1 .. 6"; "SIZE m 1, 2" */
    private static void sizes() {
        for (int kind : KINDS) {
            SurfaceSums x = new SurfaceSums();
            for (int size : new int[] {0, mostSize(kind) + 1, -1, LOW, HIGH}) {
                Due.is("2 size " + size + " of kind " + kind, x.algebra(kind, size, 0), -2);
            }
            Due.is("2 least size", x.algebra(kind, 1, 0), 0);
            Due.is("2 greatest size", x.algebra(kind, mostSize(kind), 0), 1);
            Due.is("4 least size", x.of(0, 1), 1);
            Due.is("4 greatest size", x.of(1, 1), mostSize(kind));
        }
    }

    /** "Their ELEMENTS are numbered from 0 on"; "n ELEMENTS"; "2 to the m-th ELEMENTS" */
    private static void elements() {
        for (int kind : KINDS) {
            for (int size = 1; size <= mostSize(kind); size++) {
                SurfaceSums x = with(kind, size, 1);
                int n = kind == 4 ? size * 2 : size;
                Due.is("4 elements", x.of(0, 3), n);
                Due.is("7 the last", Math.min(0, x.element(0, n - 1, 0)), 0);
                Due.is("7 one too many", x.element(0, n, 0), -1);
                Due.is("7 one too few", x.element(0, -1, 0), -1);
                int last = n - 1;
                Due.is("5 the last", Math.min(0, x.product(0, last, last, last)), 0);
                Due.is("5 i", x.product(0, n, last, last), -1);
                Due.is("5 j", x.product(0, last, n, last), -1);
                Due.is("5 k", x.product(0, last, last, n), -1);
                Due.is("6 the last", Math.min(0, x.form(0, last, last, 1)), 0);
                Due.is("6 i", x.form(0, n, last, 1), -1);
                Due.is("6 j", x.form(0, last, n, 1), -1);
                Due.is("8 the last", Math.min(0, x.split(0, last, last, last)), 0);
                Due.is("8 e", x.split(0, n, last, last), -1);
                Due.is("8 j", x.split(0, last, n, last), -1);
                Due.is("8 k", x.split(0, last, last, n), -1);
            }
        }
    }

    /** "i, if i is j, else nothing; TRACE 1; ONE: all of them, each once" */
    private static void points() {
        for (int size = 1; size <= 6; size++) {
            for (int kind = 0; kind <= 1; kind++) {
                SurfaceSums x = with(kind, size, 0);
                for (int i = 0; i < size; i++) {
                    Due.is("7 trace", x.element(0, i, 0), kind == 0 ? 1 : i + 1);
                    Due.is("7 one", x.element(0, i, 1), 1);
                    for (int j = 0; j < size; j++) {
                        Due.is("5 points, first", x.product(0, i, j, i), i == j ? 1 : 0);
                        Due.is("5 points, second", x.product(0, i, j, j), i == j ? 1 : 0);
                    }
                }
            }
        }
        Due.is("5 no third", with(0, 3, 0).product(0, 1, 1, 2), 0);
    }

    /** "TRACE is FIGURE and i and 1, together" */
    private static void scaled() {
        Due.is("7 least trace", with(1, 6, 0).element(0, 0, 0), 1);
        Due.is("7 greatest trace", with(1, 6, 9).element(0, 5, 0), 15);
        // 15 * 5319 is 8 * 9973 and 1.
        Due.is("7 handle of the greatest", with(1, 6, 9).element(0, 5, 2), 5319);
        Due.is("7 handle of the least", with(1, 6, 0).element(0, 0, 2), 1);
    }

    /** "The ELEMENT (i and j) modulo n; TRACE 1 of ELEMENT 0, of others 0; ONE: ELEMENT 0" */
    private static void cycle() {
        for (int n = 1; n <= 6; n++) {
            SurfaceSums x = with(2, n, 9);
            for (int i = 0; i < n; i++) {
                Due.is("7 trace", x.element(0, i, 0), i == 0 ? 1 : 0);
                Due.is("7 one", x.element(0, i, 1), i == 0 ? 1 : 0);
            }
            x = with(2, n, 9);
            for (int i = 0; i < n; i++) {
                for (int j = 0; j < n; j++) {
                    for (int k = 0; k < n; k++) {
                        Due.is("5 cycle " + n + ": " + i + " " + j + " " + k, x.product(0, i, j, k), (i + j) % n == k ? 1 : 0);
                    }
                }
            }
        }
        SurfaceSums x = with(2, 6, 0);
        Due.is("5 together one below n", x.product(0, 5, 0, 5), 1);
        Due.is("5 together n", x.product(0, 5, 1, 0), 1);
        Due.is("5 the last two together", x.product(0, 5, 5, 4), 1);
    }

    /** "FIGURE times, if i and j together are n or more; TRACE 1 of the last ELEMENT, of others 0" */
    private static void twist() {
        for (int figure : new int[] {0, 1, 9}) {
            for (int n = 1; n <= 6; n++) {
                SurfaceSums x = with(3, n, figure);
                int last = n - 1;
                Due.is("5 together one below n", x.product(0, last, 0, last), 1);
                for (int i = 1; i < n; i++) {
                    Due.is("5 together n", x.product(0, i, n - i, 0), figure);
                    Due.is("5 together one below n", x.product(0, i - 1, n - i, last), 1);
                    Due.is("5 more than n", x.product(0, last, i, i - 1), figure);
                    Due.is("5 elsewhere", x.product(0, last, i, i), 0);
                }
                for (int i = 0; i < n; i++) {
                    Due.is("7 trace", x.element(0, i, 0), i == last ? 1 : 0);
                    Due.is("7 one", x.element(0, i, 1), i == 0 ? 1 : 0);
                }
            }
        }
        // Of one element, which is the last, too, nothing comes to n.
        SurfaceSums x = with(3, 1, 0);
        Due.is("5 of one", x.product(0, 0, 0, 0), 1);
        Due.is("7 of one", x.element(0, 0, 0) * 10 + x.element(0, 0, 1), 11);
    }

    /** "Nothing, if i and j have a bit in common; ... with the other sign, if the pairs ... are odd in number" */
    private static void graded() {
        // By i and j: the one element of the product, or -1, behind it how often.
        int[][] element = {{0, 1, 2, 3}, {1, -1, 3, -1}, {2, 3, -1, -1}, {3, -1, -1, -1}};
        int[][] times = {{1, 1, 1, 1}, {1, 0, 1, 0}, {1, 9972, 0, 0}, {1, 0, 0, 0}};
        for (int m = 1; m <= 2; m++) {
            SurfaceSums x = with(4, m, 9);
            int n = m * 2;
            for (int i = 0; i < n; i++) {
                for (int j = 0; j < n; j++) {
                    for (int k = 0; k < n; k++) {
                        Due.is("5 graded " + i + " " + j + " " + k, x.product(0, i, j, k), element[i][j] == k ? times[i][j] : 0);
                    }
                }
                Due.is("7 trace", x.element(0, i, 0), i == n - 1 ? 1 : 0);
                Due.is("7 one", x.element(0, i, 1), i == 0 ? 1 : 0);
            }
        }
    }

    /** "For all i and k, the sum over j of T (i, j) times FORM (j, k) is 1, if i is k, else 0" */
    private static void turned() {
        for (int kind : KINDS) {
            for (int figure : new int[] {0, 9}) {
                for (int size = 1; size <= mostSize(kind); size++) {
                    SurfaceSums x = with(kind, size, figure);
                    int n = x.of(0, 3);
                    for (int i = 0; i < n; i++) {
                        for (int k = 0; k < n; k++) {
                            long all = 0;
                            for (int j = 0; j < n; j++) {
                                all += (long) x.form(0, i, j, 1) * x.form(0, j, k, 0);
                            }
                            Due.is("6 turned " + kind + " " + size + ": " + i + " " + k, all % 9973, i == k ? 1 : 0);
                        }
                    }
                }
            }
        }
    }

    /** HANDLE, CROSS, SPLIT by "over all i and j", "over all i": by the least and greatest. */
    private static void derived() {
        for (int kind : KINDS) {
            for (int size : new int[] {1, mostSize(kind)}) {
                SurfaceSums x = with(kind, size, 9);
                int n = x.of(0, 3);
                for (int k = 0; k < n; k++) {
                    long handle = 0;
                    long cross = 0;
                    for (int i = 0; i < n; i++) {
                        cross += x.product(0, i, i, k);
                        for (int j = 0; j < n; j++) {
                            handle += (long) x.form(0, i, j, 1) * x.product(0, i, j, k);
                        }
                    }
                    Due.is("7 handle " + kind + " " + size + ": " + k, x.element(0, k, 2), handle % 9973);
                    Due.is("7 cross " + kind + " " + size + ": " + k, x.element(0, k, 3), cross % 9973);
                    for (int j = 0; j < n; j++) {
                        long split = 0;
                        for (int i = 0; i < n; i++) {
                            split += (long) x.form(0, i, j, 1) * x.product(0, n - 1, i, k);
                        }
                        Due.is("8 split " + kind + " " + size + ": " + k, x.split(0, n - 1, k, j), split % 9973);
                    }
                }
            }
        }
    }

    /** "CLOSED by h and c (0 .. 20 each): beginning with ONE": no times is TRACE of ONE. */
    private static void closedNoTimes() {
        for (int size = 1; size <= 6; size++) {
            Due.is("9 points", with(0, size, 9).closed(0, 0, 0), size);
            Due.is("9 scaled", with(1, size, 0).closed(0, 0, 0), size * (size + 1) / 2);
            Due.is("9 cycle", with(2, size, 9).closed(0, 0, 0), 1);
            Due.is("9 twist", with(3, size, 9).closed(0, 0, 0), size == 1 ? 1 : 0);
        }
        Due.is("9 graded", with(4, 1, 9).closed(0, 0, 0), 0);
        Due.is("9 graded", with(4, 2, 9).closed(0, 0, 0), 0);
        SurfaceSums x = with(0, 1, 0);
        for (int n : new int[] {-1, 21, LOW, HIGH}) {
            Due.is("9 h", x.closed(0, n, 0), -2);
            Due.is("9 c", x.closed(0, 0, n), -2);
        }
    }

    /** "CLOSED by h and c (0 .. 20 each)": twenty times. */
    private static void closedMostTimes() {
        SurfaceSums x = with(2, 3, 0);
        // 3 to the 20th; the cross of an odd cycle is each element once, of which 20 come to 3 to the 19th times each.
        Due.is("9 h 20", x.closed(0, 20, 0), 4195);
        Due.is("9 h 19", x.closed(0, 19, 0), 8047);
        Due.is("9 c 20", x.closed(0, 0, 20), 8047);
        Due.is("9 c 19", x.closed(0, 0, 19), 9331);
        Due.is("9 c 1", x.closed(0, 0, 1), 1);
        // 3 to the 20th by 3 to the 19th: 4195 * 8047 is 33757165, less 3384 * 9973 is 8533.
        Due.is("9 both 20", x.closed(0, 20, 20), 8533);
    }

    /** "The least h (0 .. 20)"; "NOT: none" */
    private static void handlesLeast() {
        SurfaceSums x = with(2, 3, 0);
        Due.is("10 the first", x.handles(0, 0, 1), 0);
        Due.is("10 the last", x.handles(0, 0, 4195), 20);
        Due.is("10 one before the last", x.handles(0, 0, 8047), 19);
        // 3 to the 21st is 12585, or 2612.
        Due.is("10 one too many", x.handles(0, 0, 2612), -5);
        Due.is("10 c 20", x.handles(0, 20, 8533), 20);
        Due.is("10 c 20", x.handles(0, 20, 8047), 0);
        for (int c : new int[] {-1, 21, LOW, HIGH}) {
            Due.is("10 c", x.handles(0, c, 1), -2);
        }
        Due.is("10 the least of many", with(0, 6, 0).handles(0, 20, 6), 0);
        // Two handles and more are nothing.
        Due.is("10 the least of some", with(4, 1, 0).handles(0, 0, 2), 1);
        Due.is("10 0 can be", with(4, 1, 0).handles(0, 0, 0), 0);
        Due.is("10 never 0", with(3, 1, 0).handles(0, 0, 0), -5);
    }

    /** "handles() of a v beyond 0 .. 9972 is NOT, were() of it 0" */
    private static void handlesBeyond() {
        SurfaceSums x = with(4, 2, 0);
        Due.is("10 v 0", x.handles(0, 0, 0), 0);
        for (int v : new int[] {-1, 9973, -9973, 2 * 9973, LOW, HIGH}) {
            Due.is("10 v " + v, x.handles(0, 0, v), -5);
            Due.is("11 v " + v, x.were(0, 0, 0, v), 0);
        }
        x = with(3, 3, 9);
        Due.is("10 v 9972", x.handles(0, 3, 9972), 4);
        Due.is("11 v 9972", x.were(0, 4, 3, 9972) >> 9, 1);
        Due.is("10 v -1", x.handles(0, 3, -1), -5);
        Due.is("11 v -1", x.were(0, 4, 3, -1), 0);
        for (int n : new int[] {-1, 21, LOW, HIGH}) {
            Due.is("11 h", x.were(0, n, 0, 9973), -2);
            Due.is("11 c", x.were(0, 0, n, 9973), -2);
        }
        Due.is("11 h and c 20", Math.min(0, x.were(0, 20, 20, 0)), 0);
    }

    /** "WERE: FIGURES (bits 0 .. 9) by which, were one that of an ALGEBRA, CLOSED by h and c would be v." */
    private static void were() {
        SurfaceSums x = with(1, 1, 5);
        // Of one point the trace is FIGURE and 1.
        for (int figure = 0; figure <= 9; figure++) {
            Due.is("11 figure " + figure, x.were(0, 0, 0, figure + 1), 1 << figure);
        }
        Due.is("11 below the least", x.were(0, 0, 0, 0), 0);
        Due.is("11 above the greatest", x.were(0, 0, 0, 11), 0);
        Due.is("11 all", x.were(0, 1, 0, 1), 1023);
        Due.is("11 the figure stays", x.of(0, 2) * 100 + x.closed(0, 0, 0), 506);
    }

    /** "KINDS whose FIGURE does not matter give all ten bits, or none" */
    private static void wereWhatDoesNotMatter() {
        int[][] algebras = {{0, 3, 9}, {2, 3, 9}, {4, 1, 9}, {4, 2, 9}};
        int[] closed = {3, 3, 2, 0};
        for (int i = 0; i < algebras.length; i++) {
            SurfaceSums x = with(algebras[i][0], algebras[i][1], algebras[i][2]);
            Due.is("11 all ten bits", x.were(0, 1, 0, closed[i]), 1023);
            Due.is("11 none", x.were(0, 1, 0, closed[i] + 1), 0);
        }
    }

    /** "All is told as ALGEBRAS, SURFACES are when it is asked." */
    private static void becomesAtOnce() {
        SurfaceSums x = with(3, 2, 0);
        Due.told(x, 0, "ohohohmmc");
        Due.is("9 before", x.closed(0, 3, 0), 0);
        Due.is("20 before", x.sum(0, 0, 0), 0);
        x.becomes(0, 9);
        Due.is("5 after", x.product(0, 1, 1, 0), 9);
        Due.is("9 after", x.closed(0, 3, 0), 72);
        Due.is("20 after", x.sum(0, 0, 0), 72);
        Due.is("7 after", x.element(0, 0, 3), 10);
        Due.is("8 after", x.split(0, 1, 0, 0), 9);
        x.becomes(0, 0);
        Due.is("8 back", x.split(0, 1, 0, 0), 0);
        Due.is("7 back", x.element(0, 0, 3), 1);
    }
}
