/** Promises 31 to 37: lists, the image, counts. Answers worked out by hand from the document. */
public final class ListTest {
    private static final int LOW = Integer.MIN_VALUE, HIGH = Integer.MAX_VALUE;

    public static void main(String[] args) {
        judge();
        list();
        put();
        get();
        image();
        undo();
        count();
        Due.end();
    }

    private static void judge() {
        SurfaceSums x = new SurfaceSums();
        x.algebra(3, 2, 3);
        Due.told(x, 0, "ohw");
        Due.is("31 none", x.judge(4, 0, 0), -1);
        Due.is("31 none", x.judge(-1, 0, 0), -1);
        Due.is("31 none before nothing", x.judge(0, 4, 0), -1);
        Due.is("31 none before nothing", x.judge(0, 0, 1), -1);
        Due.is("31 nothing", x.judge(0, 0, 0), -11);
        x.list(0, 0);
        Due.is("31 no places", x.judge(0, 0, 0), -5);
        x.list(0, 12);
        Due.is("31 first", x.judge(0, 0, 0), 0);
        x.put(0, 0, 6);
        Due.is("31 later", x.judge(0, 0, 0), 3);
        x.put(0, 3, 2);
        Due.is("31 as it is", x.judge(0, 0, 0), -5);
        x.put(0, 11, 1);
        Due.is("31 beyond the places", x.judge(0, 0, 0), 11);
        x.put(0, 4, 9973);
        Due.is("31 numbers as they are", x.judge(0, 0, 0), 4);
        x.put(0, 3, 2 + 9973);
        Due.is("31 numbers as they are", x.judge(0, 0, 0), 3);
        x.list(1, 2);
        x.put(1, 0, 6);
        Due.is("31 the list's places alone", x.judge(1, 0, 0), -5);
        x.put(1, 1, 1);
        Due.is("31 last", x.judge(1, 0, 0), 1);
    }

    private static void list() {
        SurfaceSums x = new SurfaceSums();
        for (int list : new int[] {-1, 4, LOW, HIGH}) {
            Due.is("32 none", x.list(list, 13), -1);
            Due.is("32 none", x.list(list, -1), -1);
        }
        Due.is("32 bad", x.list(0, 13), -2);
        Due.is("32 bad", x.list(0, HIGH), -2);
        Due.is("32 below", x.list(0, -1), -14);
        Due.is("32 below", x.list(0, LOW), -14);
        Due.is("32 nothing held", x.put(0, 0, 0), -11);
        Due.is("32 list", x.list(0, 12), 1);
        for (int i = 0; i < 12; i++) {
            Due.is("32 all 0", x.get(0, i), 0);
            x.put(0, i, i + 1);
        }
        Due.is("32 others", x.get(1, 0), SurfaceSums.NO);
        Due.is("32 bad changes nothing", x.list(0, 13) + x.get(0, 11), 10);
        Due.is("32 again", x.list(0, 3), 1);
        Due.is("32 all 0", x.get(0, 0) + x.get(0, 2), 0);
        Due.is("32 shorter", x.get(0, 3), SurfaceSums.NO);
        Due.is("32 longer", x.list(0, 12), 1);
        Due.is("32 all 0", x.get(0, 11), 0);
        Due.is("32 empty", x.list(0, 0), 1);
        Due.is("32 empty, but held", x.put(0, 0, 1), -13);
    }

    private static void put() {
        SurfaceSums x = new SurfaceSums();
        Due.is("33 none", x.put(4, 0, 0), -1);
        Due.is("33 none", x.put(-1, 0, 0), -1);
        Due.is("33 nothing", x.put(3, 99, 0), -11);
        x.list(3, 2);
        Due.is("33 put", x.put(3, 0, LOW), 1);
        Due.is("33 put", x.put(3, 1, HIGH), 1);
        for (int i : new int[] {-1, 2, LOW, HIGH}) {
            Due.is("33 beyond", x.put(3, i, 5), -13);
        }
        Due.is("33 get", x.get(3, 0), LOW);
        Due.is("33 get", x.get(3, 1), HIGH);
        Due.is("33 others", x.put(2, 0, 5), -11);
    }

    private static void get() {
        SurfaceSums x = new SurfaceSums();
        x.list(1, 3);
        x.put(1, 2, -7);
        Due.is("34 get", x.get(1, 2), -7);
        Due.is("34 get", x.get(1, 0), 0);
        for (int i : new int[] {-1, 3, LOW, HIGH}) {
            Due.is("34 no such place", x.get(1, i), SurfaceSums.NO);
            Due.is("34 no such list", x.get(i < 3 ? i : i + 1, 0), SurfaceSums.NO);
        }
        Due.is("34 nothing there", x.get(0, 0), SurfaceSums.NO);
    }

    private static void image() {
        SurfaceSums x = new SurfaceSums();
        Due.is("35 none yet", x.image(), 0);
        x.algebra(0, 1, 0);
        x.algebra(1, 2, 3);
        Due.is("35 how many", x.image(), 2);
        x.algebra(0, 1, 0);
        Due.is("35 the latest", x.undo() * 10 + x.count(0), 22);
    }

    private static void undo() {
        SurfaceSums x = new SurfaceSums();
        Due.is("36 state", x.undo(), -3);
        x.algebra(1, 2, 3);
        Due.told(x, 0, "ohw");
        x.plan(0, 0);
        x.list(0, 2);
        x.image();
        x.becomes(0, 4);
        x.algebra(2, 2, 2);
        Due.told(x, 0, "okokok");
        Due.told(x, 3, "o");
        x.plan(-1, 0);
        x.plan(1, 3);
        x.plan(1, 4);
        x.put(0, 0, 77);
        x.list(1, 1);
        x.write(0);
        Due.feed(x, "oh");
        Due.is("36 undo", x.undo(), 1);
        Due.is("36 algebras", x.of(1, 0), -1);
        Due.is("36 figure", x.of(0, 2), 3);
        Due.is("36 trace", x.element(0, 1, 0), 5);
        Due.letters(x, 0, "ohw");
        Due.is("36 circles", x.shape(0, 1), 2);
        Due.letters(x, 3, "");
        Due.is("36 plan", x.count(4), 1);
        Due.is("36 plan", x.behind(0, 0), 4);
        Due.is("36 not lists", x.get(0, 0), 77);
        Due.is("36 not lists", x.get(1, 0), 0);
        Due.is("36 not the paper", x.count(3), 6);
        Due.is("36 not the tape", x.count(2), 2);
        x.cut(0, 1);
        x.becomes(0, 9);
        Due.is("36 again", x.undo(), 1);
        Due.letters(x, 0, "ohw");
        Due.is("36 figure", x.of(0, 2), 3);
        Due.is("36 a new one", x.algebra(3, 3, 3), 1);
        imageOfAll();
    }

    private static void imageOfAll() {
        SurfaceSums x = new SurfaceSums();
        for (int i = 0; i < 4; i++) {
            x.algebra(i, 2, i);
            Due.told(x, i, "o3".substring(0, 1 + i % 2));
        }
        for (int i = 0; i < 8; i++) {
            x.plan(1, 1);
            x.plan(0, 6);
        }
        Due.is("35 four", x.image(), 4);
        x.plan(-1, 0);
        for (int i = 0; i < 8; i++) {
            x.plan(0, 3);
            x.becomes(i, 9);
            x.cut(i, 0);
        }
        Due.is("36 four", x.undo(), 4);
        for (int i = 0; i < 4; i++) {
            Due.is("36 of", x.of(i, 0) * 100 + x.of(i, 1) * 10 + x.of(i, 2), i * 101 + 20);
            Due.letters(x, i, i % 2 == 0 ? "o" : "ooo");
        }
        // Each crosscap but the last goes again; of one disc all goes, and the crosscap can't stand.
        Due.is("36 rows as they were", x.behind(1, 0) * 10 + x.behind(0, 0), 30);
        Due.is("36 rows", x.count(4), 8);
    }

    private static void count() {
        SurfaceSums x = new SurfaceSums();
        x.algebra(0, 1, 0);
        Due.told(x, 0, "o2c");
        Due.told(x, 3, "oh9");
        x.write(0);
        x.feed('?');
        x.feed('?');
        x.plan(0, 0);
        x.plan(0, 0);
        x.plan(0, 0);
        x.plan(0, 0);
        int[] due = {1, 13, 2, 3, 4};
        for (int what = 0; what < 5; what++) {
            Due.is("37 count " + what, x.count(what), due[what]);
        }
        for (int what : new int[] {-1, 5, LOW, HIGH}) {
            Due.is("37 bad", x.count(what), -2);
        }
    }
}
