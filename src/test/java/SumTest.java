/** Promises 20 to 22: sums. Answers worked out by hand, and what the laws of such algebras ask for. */
public final class SumTest {
    public static void main(String[] args) {
        sum();
        signs();
        total();
        alike();
        closedOnes();
        laws();
        Due.end();
    }

    private static void sumIs(int kind, int size, int figure, String text, int... due) {
        SurfaceSums x = new SurfaceSums();
        x.algebra(kind, size, figure);
        if (!text.isEmpty()) {
            Due.told(x, 0, text);
        }
        for (int place = 0; place < due.length; place++) {
            Due.is("20 sum of " + text + " at " + place, x.sum(0, 0, place), due[place]);
        }
        Due.is("20 no such place", x.sum(0, 0, due.length), -1);
        Due.is("20 no such place", x.sum(0, 0, -1), -1);
        Due.is("20 places", x.total(0, 0, 0), due.length);
    }

    private static void sum() {
        sumIs(2, 3, 0, "", 1);
        sumIs(0, 2, 0, "o", 1, 1);
        sumIs(2, 3, 0, "o", 1, 0, 0);
        sumIs(0, 1, 0, "o3", 1);
        // Trace 3, 4; the handle by a third and a quarter: 6649 * 3 = 19947, 7480 * 4 = 29920.
        sumIs(1, 2, 2, "oh", 6649, 7480);
        sumIs(1, 2, 2, "oc", 7);
        sumIs(1, 2, 2, "ow", 6649, 0, 0, 7480);
        // Twist of 2 by 3: the handle is 2 times element 1, the cross 4 times element 0.
        sumIs(3, 2, 3, "oh", 0, 2);
        sumIs(3, 2, 3, "ok", 4, 0);
        sumIs(3, 2, 3, "oho", 0, 2, 0, 0);
        sumIs(3, 2, 3, "ooh", 0, 0, 2, 0);
        sumIs(3, 2, 3, "oohx", 0, 2, 0, 0);
        sumIs(3, 2, 3, "ohohm", 12, 0);
        sumIs(3, 2, 3, "ohw", 6, 0, 0, 2);
        // First circle 1, second 0, third 0 and so on: place 1 * e1 + 2 * e2 + 4 * e3.
        sumIs(3, 2, 3, "ohoo", 0, 2, 0, 0, 0, 0, 0, 0);
        sumIs(3, 2, 3, "oohox", 0, 0, 0, 0, 2, 0, 0, 0);
        sumIs(3, 2, 3, "oohoxc", 2, 0, 0, 0);
        sumIs(3, 2, 3, "oohohc", 0, 0, 4, 0);
        sumIs(3, 2, 3, "oohohcx", 0, 4, 0, 0);
        SurfaceSums x = new SurfaceSums();
        Due.is("20 none", x.sum(0, 0, 0), -1);
        x.algebra(0, 1, 0);
        Due.is("20 none", x.sum(4, 0, 0), -1);
        Due.is("20 none", x.sum(-1, 0, 0), -1);
        Due.is("20 none", x.sum(0, 1, 0), -1);
        Due.is("20 none", x.sum(0, 0, Integer.MAX_VALUE), -1);
    }

    /** Elements of graded 2: 0, a, b, ab. A split of ONE is ab 0 + 0 ab, and a b, b a with a sign. */
    private static void signs() {
        // T (0, 3) = T (3, 0) = T (2, 1) = 1, T (1, 2) = -1.
        sumIs(4, 2, 0, "ow", 0, 0, 0, 1, 0, 0, 1, 0, 0, 9972, 0, 0, 1, 0, 0, 0);
        sumIs(4, 2, 0, "owx", 0, 0, 0, 1, 0, 0, 1, 0, 0, 9972, 0, 0, 1, 0, 0, 0);
        sumIs(4, 1, 0, "ow", 0, 1, 1, 0);
        sumIs(4, 2, 0, "owm", 0, 0, 0, 0);
        sumIs(4, 2, 0, "owxm", 0, 0, 0, 0);
        sumIs(4, 1, 0, "owm", 0, 2);
        // An exchange of both that have an odd number of bits has the other sign.
        SurfaceSums x = new SurfaceSums();
        x.algebra(4, 2, 0);
        Due.told(x, 0, "oww");
        Due.told(x, 1, "owwx");
        for (int i = 0; i < 4; i++) {
            for (int j = 0; j < 4; j++) {
                for (int k = 0; k < 4; k++) {
                    boolean odd = (j == 1 || j == 2) && (k == 1 || k == 2);
                    int from = x.sum(0, 0, i + 4 * k + 16 * j);
                    Due.is("20 exchange", x.sum(1, 0, i + 4 * j + 16 * k), odd && from != 0 ? 9973 - from : from);
                }
            }
        }
    }

    private static void total() {
        SurfaceSums x = new SurfaceSums();
        x.algebra(3, 2, 3);
        x.algebra(4, 2, 0);
        Due.told(x, 0, "ohw");
        int[] due = {4, 2, 0, 8};
        for (int what = 0; what < 4; what++) {
            Due.is("21 total " + what, x.total(0, 0, what), due[what]);
        }
        Due.is("21 first", x.total(0, 1, 2), -5);
        Due.is("21 not zero", x.total(0, 1, 1), 0);
        Due.is("21 together", x.total(0, 1, 3), 0);
        Due.told(x, 1, "ow");
        Due.is("21 first", x.total(1, 1, 2), 3);
        Due.is("21 modulo", x.total(1, 1, 3), 2);
        Due.is("21 empty", x.total(2, 1, 3) * 100 + x.total(2, 1, 0) * 10 + x.total(2, 1, 1), 111);
        Due.is("21 none", x.total(0, 0, 4), -1);
        Due.is("21 none", x.total(0, 0, -1), -1);
        Due.is("21 none", x.total(4, 0, 0), -1);
        Due.is("21 none", x.total(0, 2, 0), -1);
        Due.told(x, 3, "o3");
        x.algebra(0, 6, 0);
        Due.is("21 most places", x.total(3, 2, 0) + x.total(3, 2, 1) + x.total(3, 2, 3), 648);
        // What a greater sum has left behind is not told by a lesser one.
        for (String text : new String[] {"oc", "okc", "ohhc", "okkkc"}) {
            Due.told(x, 2, text);
            x.total(3, 2, 0);
            Due.is("21 first of " + text, x.total(2, 0, 2), -5);
        }
    }

    private static void alike() {
        SurfaceSums x = new SurfaceSums();
        x.algebra(0, 1, 0);
        x.algebra(3, 2, 3);
        Due.told(x, 0, "oh");
        Due.told(x, 1, "owm");
        Due.told(x, 2, "o2");
        Due.told(x, 3, "ok");
        Due.is("22 alike", x.alike(0, 1, 1), 1);
        Due.is("22 itself", x.alike(2, 2, 1), 1);
        Due.is("22 unlike", x.alike(0, 3, 1), 0);
        Due.is("22 alike by a lesser algebra", x.alike(0, 3, 0), 1);
        Due.is("22 circles", x.alike(0, 2, 0), 0);
        Due.told(x, 2, "oc");
        Due.is("22 no circles", x.alike(0, 2, 0), 0);
        Due.told(x, 3, "oc");
        Due.is("22 no circles", x.alike(3, 2, 1), 1);
        Due.told(x, 3, "ohc");
        Due.is("22 no circles", x.alike(3, 2, 1), 0);
        x.algebra(0, 6, 0);
        Due.told(x, 1, "o3");
        Due.is("22 most places", x.alike(1, 1, 2), 1);
        Due.told(x, 3, "o3hx");
        Due.is("22 most places", x.alike(1, 3, 2) * 10 + x.alike(1, 3, 1), 10);
        Due.is("22 none", x.alike(4, 0, 0), -1);
        Due.is("22 none", x.alike(0, 4, 0), -1);
        Due.is("22 none", x.alike(0, 0, 3), -1);
    }

    /** A surface of one part without rims sums to CLOSED by its handles and crosscaps. */
    private static void closedOnes() {
        int[][] algebras = {{0, 4, 0}, {1, 5, 3}, {2, 6, 0}, {3, 5, 4}, {4, 1, 0}, {4, 2, 0}, {3, 1, 9}};
        for (int[] algebra : algebras) {
            SurfaceSums x = new SurfaceSums();
            x.algebra(algebra[0], algebra[1], algebra[2]);
            for (int h = 0; h <= 4; h++) {
                for (int c = 0; c <= 3; c++) {
                    String text = "o" + "h".repeat(h) + "k".repeat(c) + "c";
                    Due.told(x, 0, text);
                    Due.is("20 closed " + text, x.sum(0, 0, 0), x.closed(0, h, c));
                    text = "o" + "wm".repeat(h) + "k".repeat(c) + "c";
                    Due.told(x, 0, text);
                    Due.is("20 closed " + text, x.sum(0, 0, 0), x.closed(0, h, c));
                }
            }
        }
    }

    private static void laws() {
        String[][] same = {{"ohkwm", "okhwm"}, {"owc", "o"}, {"o2m", "o"},
            {"ohwc", "oh"}, {"okwwmm", "okwmwm"}, {"ohoxx", "oho"}, {"ohokmc", "ohkc"}, {"ohwxm", "ohwm"}};
        int[][] algebras = {{0, 3, 0}, {1, 4, 2}, {2, 5, 0}, {3, 4, 6}};
        for (int[] algebra : algebras) {
            SurfaceSums x = new SurfaceSums();
            x.algebra(algebra[0], algebra[1], algebra[2]);
            for (String[] two : same) {
                Due.told(x, 0, two[0]);
                Due.told(x, 1, two[1]);
                Due.is("22 " + two[0] + " and " + two[1], x.alike(0, 1, 0), 1);
            }
        }
    }
}
