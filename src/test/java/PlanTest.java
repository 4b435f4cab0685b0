/** Promises 27 to 30: plans, what is written. Answers worked out by hand from the document. */
public final class PlanTest {
    private static final int LOW = Integer.MIN_VALUE, HIGH = Integer.MAX_VALUE;

    public static void main(String[] args) {
        plan();
        behind();
        behindIsAsInTruth();
        write();
        paper();
        Due.end();
    }

    private static void plan() {
        SurfaceSums x = new SurfaceSums();
        Due.is("27 empty", x.plan(-1, HIGH), 0);
        for (int what : new int[] {-2, 3, LOW, HIGH}) {
            Due.is("27 none", x.plan(what, -1), -1);
        }
        int[][] bad = {{0, -1}, {0, 7}, {1, 0}, {1, 10}, {2, -1}, {2, 4}, {0, LOW}, {1, HIGH}, {2, LOW}};
        for (int[] row : bad) {
            Due.is("27 bad", x.plan(row[0], row[1]), -2);
        }
        int[][] good = {{0, 0}, {0, 6}, {1, 1}, {1, 9}, {2, 0}, {2, 3}, {0, 1}, {0, 2}};
        for (int i = 0; i < 8; i++) {
            Due.is("27 row", x.plan(good[i][0], good[i][1]), i + 1);
        }
        Due.is("27 full", x.plan(0, 0), -4);
        Due.is("27 bad before full", x.plan(0, 7), -2);
        Due.is("27 none before full", x.plan(3, 0), -1);
        Due.is("27 count", x.count(4), 8);
        Due.is("27 empty", x.plan(-1, 0), 0);
        Due.is("27 count", x.count(4), 0);
        Due.is("27 row", x.plan(1, 9), 1);
    }

    private static void behindIs(SurfaceSums x, int surface, int pieces, int circles, int parts) {
        Due.is("28 pieces", x.behind(surface, 0), pieces);
        Due.is("28 circles", x.behind(surface, 1), circles);
        Due.is("28 parts", x.behind(surface, 2), parts);
    }

    private static void behind() {
        SurfaceSums x = new SurfaceSums();
        x.algebra(3, 2, 3);
        x.algebra(0, 2, 0);
        Due.told(x, 0, "ohw");
        behindIs(x, 0, 3, 2, 1);
        Due.is("28 no rows", x.behind(0, 10), 8);
        Due.is("28 no rows", x.behind(0, 11), 2);
        x.plan(0, 0);
        behindIs(x, 0, 4, 3, 2);
        behindIs(x, 1, 1, 1, 1);
        x.plan(0, 2);
        behindIs(x, 0, 4, 3, 2);
        behindIs(x, 1, 2, 2, 1);
        x.plan(1, 2);
        behindIs(x, 0, 2, 1, 1);
        behindIs(x, 1, 0, 0, 0);
        Due.is("28 sum", x.behind(0, 10), 2);
        Due.is("28 sum of none", x.behind(1, 10), 1);
        x.plan(1, 9);
        behindIs(x, 0, 0, 0, 0);
        x.plan(2, 0);
        behindIs(x, 0, 3, 2, 1);
        x.plan(2, 0);
        behindIs(x, 0, 3, 2, 1);
        x.plan(0, 1);
        behindIs(x, 0, 4, 1, 1);
        Due.letters(x, 0, "ohw");
        Due.is("28 changes nothing", x.count(1) * 10 + x.count(4), 37);
        for (int what : new int[] {-1, 3, 9, 12, 13, 14, LOW, HIGH}) {
            Due.is("28 none", x.behind(0, what), -1);
        }
        Due.is("28 none", x.behind(4, 0), -1);
        Due.is("28 none", x.behind(-1, 0), -1);
    }

    private static void behindIsAsInTruth() {
        SurfaceSums x = new SurfaceSums();
        Due.told(x, 0, "oc");
        x.plan(0, 0);
        x.plan(2, 0);
        x.plan(2, 0);
        behindIs(x, 0, 7, 1, 4);
        Due.told(x, 0, "ocoh");
        behindIs(x, 0, 9, 3, 5);
        Due.told(x, 1, "oh9h9h3");
        behindIs(x, 1, 23, 2, 2);
        x.plan(-1, 0);
        x.plan(2, 1);
        behindIs(x, 1, 22, 1, 1);
        behindIs(x, 2, 22, 1, 1);
        Due.told(x, 1, "oh9h9h4");
        x.plan(0, 5);
        x.plan(0, 5);
        behindIs(x, 1, 24, 1, 1);
        Due.told(x, 1, "ow2m2c");
        behindIs(x, 2, 6, 0, 1);
        Due.told(x, 2, "o");
        x.plan(-1, 0);
        x.plan(2, 1);
        behindIs(x, 2, 1, 1, 1);
        behindIs(x, 3, 6, 0, 1);
    }

    private static void write() {
        SurfaceSums x = new SurfaceSums();
        Due.told(x, 0, "o2xmh2kwc2");
        String due = "ooxmhhkwcc";
        Due.is("29 write", x.write(0), due.length());
        for (int i = 0; i < due.length(); i++) {
            Due.is("29 paper " + i, x.paper(i), due.charAt(i));
        }
        Due.is("29 count", x.count(3), due.length());
        Due.is("29 none", x.write(4), -1);
        Due.is("29 none", x.write(-1), -1);
        Due.is("29 paper stays", x.count(3), due.length());
        Due.told(x, 1, "oh9h9h5");
        Due.is("29 write", x.write(1), 24);
        Due.is("29 write none", x.write(2), 0);
        Due.is("29 count", x.count(3), 0);
    }

    private static void paper() {
        SurfaceSums x = new SurfaceSums();
        Due.told(x, 0, "oh");
        Due.is("30 nothing yet", x.paper(0), -1);
        x.write(0);
        x.cut(0, 0);
        Due.is("30 latest", x.paper(1), 'h');
        Due.is("30 none", x.paper(2), -1);
        Due.is("30 none", x.paper(-1), -1);
        Due.is("30 none", x.paper(LOW), -1);
        Due.is("30 none", x.paper(HIGH), -1);
        x.write(0);
        Due.is("30 none", x.paper(0), -1);
    }
}
