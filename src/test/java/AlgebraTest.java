/** Promises 1 to 11: a new object, and algebras. Answers worked out by hand from the document. */
public final class AlgebraTest {
    private static final int LOW = Integer.MIN_VALUE, HIGH = Integer.MAX_VALUE;

    public static void main(String[] args) {
        newObject();
        algebra();
        becomes();
        of();
        product();
        form();
        element();
        split();
        closed();
        handles();
        were();
        Due.end();
    }

    private static void newObject() {
        SurfaceSums x = new SurfaceSums();
        for (int what = 0; what <= 4; what++) {
            Due.is("1 count " + what, x.count(what), 0);
        }
        for (int s = 0; s < 4; s++) {
            Due.is("1 of " + s, x.of(s, 0), -1);
            for (int what = 0; what <= 4; what++) {
                Due.is("1 shape " + s + " " + what, x.shape(s, what), 0);
            }
            Due.is("1 shape " + s + " 5", x.shape(s, 5), 100);
            Due.is("1 pieceOf", x.pieceOf(s, 0), -1);
            Due.is("1 get", x.get(s, 0), SurfaceSums.NO);
            Due.is("1 put", x.put(s, 0, 1), -11);
        }
        Due.is("1 paper", x.paper(0), -1);
        Due.is("1 undo", x.undo(), -3);
        Due.is("constants", SurfaceSums.NONE * 10000 + SurfaceSums.BAD * 1000 + SurfaceSums.STATE * 100
                + SurfaceSums.FULL * 10 + SurfaceSums.NOT, -12345);
        Due.is("NO", SurfaceSums.NO, Long.MIN_VALUE);
    }

    private static void algebra() {
        SurfaceSums x = new SurfaceSums();
        for (int kind : new int[] {-1, 5, LOW, HIGH}) {
            Due.is("2 kind " + kind, x.algebra(kind, 0, 10), -1);
        }
        for (int kind = 0; kind < 5; kind++) {
            for (int size : new int[] {0, -1, 7, LOW, HIGH}) {
                Due.is("2 size " + size, x.algebra(kind, size, 0), -2);
            }
            for (int figure : new int[] {-1, 10, LOW, HIGH}) {
                Due.is("2 figure " + figure, x.algebra(kind, 1, figure), -2);
            }
        }
        Due.is("2 graded 3", x.algebra(4, 3, 0), -2);
        Due.is("2 count", x.count(0), 0);
        Due.is("2 first", x.algebra(0, 6, 9), 0);
        Due.is("2 second", x.algebra(1, 1, 0), 1);
        Due.is("2 third", x.algebra(4, 2, 9), 2);
        Due.is("2 fourth", x.algebra(2, 6, 1), 3);
        Due.is("2 full", x.algebra(3, 6, 1), -4);
        Due.is("2 bad before full", x.algebra(3, 7, 1), -2);
        Due.is("2 none before full", x.algebra(5, 7, 1), -1);
        Due.is("2 count", x.count(0), 4);
    }

    private static void becomes() {
        SurfaceSums x = new SurfaceSums();
        Due.is("3 none", x.becomes(0, 10), -1);
        x.algebra(1, 2, 3);
        Due.is("3 trace before", x.element(0, 1, 0), 5);
        Due.is("3 bad", x.becomes(0, -1), -2);
        Due.is("3 bad", x.becomes(0, 10), -2);
        Due.is("3 none", x.becomes(-1, 1), -1);
        Due.is("3 none", x.becomes(1, 1), -1);
        Due.is("3 becomes", x.becomes(0, 9), 3);
        Due.is("3 becomes", x.becomes(0, 0), 9);
        Due.is("3 of", x.of(0, 2), 0);
        Due.is("3 trace", x.element(0, 1, 0), 2);
        Due.is("3 handle", x.element(0, 0, 2), 1);
    }

    private static void of() {
        SurfaceSums x = new SurfaceSums();
        x.algebra(3, 5, 8);
        x.algebra(4, 2, 7);
        x.algebra(4, 1, 6);
        int[][] due = {{3, 5, 8, 5}, {4, 2, 7, 4}, {4, 1, 6, 2}};
        for (int a = 0; a < 3; a++) {
            for (int what = 0; what < 4; what++) {
                Due.is("4 of " + a + " " + what, x.of(a, what), due[a][what]);
            }
            Due.is("4 of what", x.of(a, 4), -1);
            Due.is("4 of what", x.of(a, -1), -1);
        }
        Due.is("4 none", x.of(3, 0), -1);
        Due.is("4 none", x.of(-1, 0), -1);
    }

    private static void product() {
        SurfaceSums x = new SurfaceSums();
        x.algebra(0, 3, 5);
        x.algebra(2, 4, 5);
        x.algebra(3, 4, 5);
        x.algebra(4, 2, 5);
        Due.is("5 points", x.product(0, 2, 2, 2), 1);
        Due.is("5 points", x.product(0, 2, 2, 1), 0);
        Due.is("5 points", x.product(0, 2, 1, 2), 0);
        Due.is("5 cycle", x.product(1, 3, 3, 2), 1);
        Due.is("5 cycle", x.product(1, 3, 1, 0), 1);
        Due.is("5 twist", x.product(2, 2, 1, 3), 1);
        Due.is("5 twist", x.product(2, 2, 2, 0), 5);
        Due.is("5 graded bits in common", x.product(3, 3, 1, 3), 0);
        Due.is("5 graded", x.product(3, 2, 1, 3), 9972);
        Due.is("5 graded", x.product(3, 1, 2, 3), 1);
        Due.is("5 graded", x.product(3, 0, 2, 2), 1);
        Due.is("5 graded", x.product(3, 1, 1, 0), 0);
        for (int e : new int[] {-1, 3, LOW, HIGH}) {
            Due.is("5 none", x.product(0, e, 0, 0), -1);
            Due.is("5 none", x.product(0, 0, e, 0), -1);
            Due.is("5 none", x.product(0, 0, 0, e), -1);
        }
        Due.is("5 none", x.product(4, 0, 0, 0), -1);
        Due.is("5 none", x.product(-1, 0, 0, 0), -1);
    }

    private static void form() {
        SurfaceSums x = new SurfaceSums();
        x.algebra(1, 3, 2);
        x.algebra(2, 3, 2);
        x.algebra(3, 3, 2);
        x.algebra(4, 2, 2);
        Due.is("6 scaled", x.form(0, 1, 1, 0), 4);
        Due.is("6 scaled", x.form(0, 1, 2, 0), 0);
        Due.is("6 scaled", x.form(0, 0, 0, 1) * 3 % 9973, 1);
        Due.is("6 cycle", x.form(1, 1, 2, 0), 1);
        Due.is("6 cycle", x.form(1, 1, 1, 0), 0);
        Due.is("6 cycle", x.form(1, 1, 2, 1), 1);
        Due.is("6 twist", x.form(2, 1, 1, 0), 1);
        Due.is("6 twist", x.form(2, 2, 1, 0), 0);
        Due.is("6 twist", x.form(2, 0, 2, 1), 1);
        Due.is("6 graded", x.form(3, 1, 2, 0), 1);
        Due.is("6 graded", x.form(3, 2, 1, 0), 9972);
        Due.is("6 graded", x.form(3, 1, 2, 1), 9972);
        Due.is("6 graded", x.form(3, 2, 1, 1), 1);
        Due.is("6 none", x.form(0, 3, 0, 0), -1);
        Due.is("6 none", x.form(0, 0, -1, 0), -1);
        Due.is("6 none", x.form(0, 0, 0, 2), -1);
        Due.is("6 none", x.form(0, 0, 0, -1), -1);
        Due.is("6 none", x.form(4, 0, 0, 0), -1);
    }

    private static void element() {
        SurfaceSums x = new SurfaceSums();
        x.algebra(1, 2, 0);
        x.algebra(2, 4, 0);
        x.algebra(3, 3, 7);
        x.algebra(4, 1, 0);
        // Scaled: trace 1, 2; one is all; handle has the inverse of the trace (4987 * 2 = 9974); cross is one.
        int[][] scaled = {{1, 1, 1, 1}, {2, 1, 4987, 1}};
        // Cycle of 4: the handle is 4 times element 0; 0 + 0, 2 + 2 are 0, 1 + 1, 3 + 3 are 2.
        int[][] cycle = {{1, 1, 4, 2}, {0, 0, 0, 0}, {0, 0, 0, 2}, {0, 0, 0, 0}};
        // Twist of 3: the handle is 3 times element 2; the cross 0, 2 and 7 times 1.
        int[][] twist = {{0, 1, 0, 1}, {0, 0, 0, 7}, {1, 0, 3, 1}};
        int[][] graded = {{0, 1, 0, 1}, {1, 0, 2, 0}};
        int[][][] due = {scaled, cycle, twist, graded};
        for (int a = 0; a < 4; a++) {
            for (int i = 0; i < due[a].length; i++) {
                for (int what = 0; what < 4; what++) {
                    Due.is("7 element " + a + " " + i + " " + what, x.element(a, i, what), due[a][i][what]);
                }
                Due.is("7 none", x.element(a, i, 4), -1);
                Due.is("7 none", x.element(a, i, -1), -1);
            }
            Due.is("7 none", x.element(a, due[a].length, 0), -1);
            Due.is("7 none", x.element(a, -1, 0), -1);
        }
        Due.is("7 none", x.element(4, 0, 0), -1);
    }

    private static void split() {
        SurfaceSums x = new SurfaceSums();
        x.algebra(2, 3, 0);
        x.algebra(3, 3, 7);
        x.algebra(4, 2, 0);
        Due.is("8 cycle", x.split(0, 1, 2, 2), 1);
        Due.is("8 cycle", x.split(0, 1, 2, 1), 0);
        // Element 2 times 0, 1, 2 is 2, 7 times 0, 7 times 1; beside these 2, 1, 0.
        Due.is("8 twist", x.split(1, 2, 2, 2), 1);
        Due.is("8 twist", x.split(1, 2, 0, 1), 7);
        Due.is("8 twist", x.split(1, 2, 1, 0), 7);
        Due.is("8 twist", x.split(1, 2, 1, 1), 0);
        Due.is("8 graded", x.split(2, 0, 2, 1), 1);
        Due.is("8 graded", x.split(2, 0, 1, 2), 9972);
        Due.is("8 graded", x.split(2, 3, 3, 3), 1);
        for (int e : new int[] {-1, 3, LOW, HIGH}) {
            Due.is("8 none", x.split(0, e, 0, 0), -1);
            Due.is("8 none", x.split(0, 0, e, 0), -1);
            Due.is("8 none", x.split(0, 0, 0, e), -1);
        }
        Due.is("8 none", x.split(3, 0, 0, 0), -1);
    }

    private static void closed() {
        SurfaceSums x = new SurfaceSums();
        x.algebra(0, 5, 0);
        x.algebra(1, 1, 1);
        x.algebra(2, 2, 0);
        x.algebra(3, 2, 3);
        Due.is("9 points", x.closed(0, 20, 20), 5);
        // Trace 2, handle a half.
        Due.is("9 scaled", x.closed(1, 0, 0), 2);
        Due.is("9 scaled", x.closed(1, 1, 0), 1);
        Due.is("9 scaled", x.closed(1, 2, 1), 4987);
        Due.is("9 cycle", x.closed(2, 3, 2), 32);
        // Handle 2 times element 1, cross 1 + 3 = 4 times element 0; two handles are 12 times element 0.
        Due.is("9 twist", x.closed(3, 0, 0), 0);
        Due.is("9 twist", x.closed(3, 1, 0), 2);
        Due.is("9 twist", x.closed(3, 1, 1), 8);
        Due.is("9 twist", x.closed(3, 3, 0), 24);
        for (int n : new int[] {-1, 21, LOW, HIGH}) {
            Due.is("9 bad", x.closed(0, n, 0), -2);
            Due.is("9 bad", x.closed(0, 0, n), -2);
            Due.is("9 none before bad", x.closed(4, n, n), -1);
        }
        Due.is("9 none", x.closed(-1, 0, 0), -1);
    }

    private static void handles() {
        SurfaceSums x = new SurfaceSums();
        x.algebra(2, 2, 0);
        x.algebra(0, 3, 0);
        Due.is("10 first", x.handles(0, 0, 1), 0);
        Due.is("10 later", x.handles(0, 0, 8), 3);
        Due.is("10 crosscap", x.handles(0, 1, 8), 2);
        // 2 to the 20th is 1048576, less 105 * 9973 is 1411.
        Due.is("10 last", x.handles(0, 0, 1411), 20);
        Due.is("10 not", x.handles(0, 0, 3), -5);
        Due.is("10 least", x.handles(1, 5, 3), 0);
        Due.is("10 beyond", x.handles(1, 5, 3 + 9973), -5);
        Due.is("10 beyond", x.handles(1, 5, -1), -5);
        Due.is("10 beyond", x.handles(1, 5, 3 - 9973), -5);
        Due.is("10 bad", x.handles(0, 21, 1), -2);
        Due.is("10 bad before not", x.handles(0, -1, 3), -2);
        Due.is("10 none", x.handles(2, 21, 1), -1);
    }

    private static void were() {
        SurfaceSums x = new SurfaceSums();
        x.algebra(1, 1, 4);
        x.algebra(0, 2, 4);
        x.algebra(3, 2, 4);
        Due.is("11 scaled", x.were(0, 0, 0, 1), 1);
        Due.is("11 scaled", x.were(0, 0, 0, 10), 512);
        Due.is("11 scaled", x.were(0, 0, 0, 11), 0);
        Due.is("11 all", x.were(0, 1, 0, 1), 1023);
        Due.is("11 all", x.were(1, 3, 3, 2), 1023);
        Due.is("11 none", x.were(1, 3, 3, 3), 0);
        // By figure f, three handles are 8 f times element 1.
        Due.is("11 twist", x.were(2, 3, 0, 24), 8);
        Due.is("11 twist", x.were(2, 3, 0, 0), 1);
        Due.is("11 beyond", x.were(1, 0, 0, 2 + 9973), 0);
        Due.is("11 beyond", x.were(1, 0, 0, -9971), 0);
        Due.is("11 bad", x.were(0, 21, 0, 0), -2);
        Due.is("11 bad", x.were(0, 0, 21, 0), -2);
        Due.is("11 bad", x.were(0, -1, 0, 0), -2);
        Due.is("11 bad", x.were(0, 0, -1, 0), -2);
        Due.is("11 none", x.were(3, 21, 0, 0), -1);
        Due.is("11 changes nothing", x.of(0, 2), 4);
        Due.is("11 changes nothing", x.closed(0, 0, 0), 5);
    }
}
