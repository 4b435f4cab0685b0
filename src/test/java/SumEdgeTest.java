/** Edges of promises 20 to 22 and of what the terms say of sums: by each sentence that names one a test of its own. */
public final class SumEdgeTest {
    private static final int LOW = Integer.MIN_VALUE, HIGH = Integer.MAX_VALUE;
    private static final String[] BY_CIRCLES = {"oc", "o", "oo", "ooo"};

    public static void main(String[] args) {
        sumOfNone();
        placeOfNoCircles();
        places();
        placeOfEachCircle();
        lastTwoCircles();
        splitOrder();
        exchangeSign();
        exchangeSignOfOthers();
        notOfAll();
        firstAtTheLast();
        togetherModulo();
        togetherExactly();
        afterGreater();
        afterGreaterInOne();
        eachPieceOnTheMost();
        alikeByCircles();
        alikeAtTheFirst();
        alikeAtTheLast();
        alikeOfZeros();
        dearest();
        Due.end();
    }

    private static SurfaceSums with(int kind, int size, int figure, String text) {
        SurfaceSums x = new SurfaceSums();
        x.algebra(kind, size, figure);
        if (!text.isEmpty()) {
            Due.is("surface " + text, Math.min(0, Due.told(x, 0, text)), 0);
        }
        return x;
    }

    /** "Beginning with 1 of no circles" */
    private static void sumOfNone() {
        for (int kind = 0; kind < 5; kind++) {
            SurfaceSums x = with(kind, 2, 0, "");
            Due.is("20 of no pieces", x.sum(0, 0, 0), 1);
            int[] due = {1, 1, 0, 1};
            for (int what = 0; what < 4; what++) {
                Due.is("21 of no pieces " + what, x.total(0, 0, what), due[what]);
            }
        }
    }

    /** "Of no circles 0 alone" */
    private static void placeOfNoCircles() {
        for (String text : new String[] {"", "oc", "ohcoc", "owmc"}) {
            SurfaceSums x = with(2, 6, 0, text);
            Due.is("20 place 0 of '" + text + "'", x.sum(0, 0, 0), text.contains("h") || text.contains("w") ? 6 : 1);
            for (int place : new int[] {-1, 1, LOW, HIGH}) {
                Due.is("20 place " + place + " of '" + text + "'", x.sum(0, 0, place), -1);
            }
            Due.is("21 places of '" + text + "'", x.total(0, 0, 0), 1);
        }
    }

    /** "NONE: ... no such PLACE": as many as n to the number of circles. */
    private static void places() {
        for (int kind = 0; kind < 5; kind++) {
            for (int size = 1; size <= (kind == 4 ? 2 : 6); size++) {
                int n = kind == 4 ? size * 2 : size;
                int places = 1;
                for (int circles = 0; circles <= 3; circles++) {
                    SurfaceSums x = with(kind, size, 1, BY_CIRCLES[circles]);
                    String label = circles + " circles, " + n + " elements";
                    Due.is("21 places of " + label, x.total(0, 0, 0), places);
                    Due.is("20 the last of " + label, Math.min(0, x.sum(0, 0, places - 1)), 0);
                    Due.is("20 one behind the last of " + label, x.sum(0, 0, places), -1);
                    Due.is("20 one before the first of " + label, x.sum(0, 0, -1), -1);
                    Due.is("20 far off " + label, x.sum(0, 0, LOW) + x.sum(0, 0, HIGH), -2);
                    places *= n;
                }
            }
        }
    }

    /** "The ELEMENT on the first circle, and n times that on the second, and n times n times that on the third" */
    private static void placeOfEachCircle() {
        // By a twist of 3 the handle is 3 times the last element, 2.
        String[] texts = {"ohoo", "ooho", "oooh", "ohohoh"};
        int[] place = {2, 6, 18, 26};
        int[] due = {3, 3, 3, 27};
        for (int i = 0; i < texts.length; i++) {
            SurfaceSums x = with(3, 3, 5, texts[i]);
            Due.is("21 first of " + texts[i], x.total(0, 0, 2), place[i]);
            Due.is("20 sum of " + texts[i], x.sum(0, 0, place[i]), due[i]);
            Due.is("21 no other of " + texts[i], x.total(0, 0, 1), 1);
        }
    }

    /** "Pants put the PRODUCT (of the last but one and the last) on theirs": the order counts, where signs do. */
    private static void lastTwoCircles() {
        // By graded 2 a split of ONE has 1 and 2 with a minus, 2 and 1 with a plus: of 1 2 the product is 3, of 2 1 less 3.
        SurfaceSums x = with(4, 2, 0, "ow");
        Due.is("20 1 and 2", x.sum(0, 0, 1 + 4 * 2), 9972);
        Due.is("20 2 and 1", x.sum(0, 0, 2 + 4 * 1), 1);
        x.piece(0, 1);
        Due.is("20 1 and 1, less 1 and 1", x.total(0, 0, 1), 0);
    }

    /** "A split puts SPLIT of its ELEMENT on both (the first of each two on the last but one circle)" */
    private static void splitOrder() {
        for (int e = 0; e < 2; e++) {
            SurfaceSums x = with(4, 2, 0, e == 0 ? "ow" : "oow");
            int circle = e == 0 ? 1 : 4;
            for (int j = 0; j < 4; j++) {
                for (int k = 0; k < 4; k++) {
                    Due.is("20 split " + j + " " + k, x.sum(0, 0, circle * (j + 4 * k)), x.split(0, 0, j, k));
                }
            }
        }
        SurfaceSums x = with(3, 3, 7, "ohw");
        for (int j = 0; j < 3; j++) {
            for (int k = 0; k < 3; k++) {
                Due.is("20 split " + j + " " + k, x.sum(0, 0, j + 3 * k), 3 * x.split(0, 2, j, k) % 9973);
            }
        }
    }

    /** "With the other sign, if the ALGEBRA is GRADED and both have an odd number of bits" */
    private static void exchangeSign() {
        SurfaceSums x = with(4, 2, 0, "ow");
        Due.told(x, 1, "owx");
        int[] odd = {0, 1, 1, 0};
        for (int j = 0; j < 4; j++) {
            for (int k = 0; k < 4; k++) {
                int was = x.sum(0, 0, j + 4 * k);
                int due = odd[j] + odd[k] == 2 ? (9973 - was) % 9973 : was;
                Due.is("20 exchange " + j + " " + k, x.sum(1, 0, k + 4 * j), due);
            }
        }
        x = with(4, 1, 0, "ow");
        Due.told(x, 1, "owx");
        Due.is("20 both even or one: as it was", x.alike(0, 1, 0), 1);
        // By graded 1 a handle is twice element 1.
        Due.told(x, 0, "ohoh");
        Due.told(x, 1, "ohohx");
        Due.is("20 both odd", x.sum(0, 0, 3) * 10000 + x.sum(1, 0, 3), 4 * 10000 + 9969);
        Due.told(x, 1, "ohohx2");
        Due.is("20 twice the other sign", x.alike(0, 1, 0), 1);
    }

    private static void exchangeSignOfOthers() {
        // Elements 1 and 1, 1 and 2 of a twist have as many bits, but no sign.
        SurfaceSums x = with(3, 2, 3, "ohohx");
        Due.is("20 twist", x.sum(0, 0, 3), 4);
        x = with(2, 4, 0, "owx");
        Due.is("20 cycle", x.sum(0, 0, 1 + 4 * 3) * 10 + x.sum(0, 0, 3 + 4), 11);
    }

    /** "The first of these (NOT: there is none)" */
    private static void notOfAll() {
        String[] texts = {"oc", "oh2", "oh2o2", "oh2wk"};
        for (String text : texts) {
            SurfaceSums x = with(4, 1, 0, text);
            Due.is("21 none of " + text, x.total(0, 0, 2), -5);
            Due.is("21 how many of " + text, x.total(0, 0, 1), 0);
            Due.is("21 together of " + text, x.total(0, 0, 3), 0);
            Due.is("21 one below", x.total(0, 0, -1), -1);
            Due.is("21 one above", x.total(0, 0, 4), -1);
        }
    }

    private static void firstAtTheLast() {
        SurfaceSums x = with(3, 6, 1, "o3");
        Due.is("21 at the first", x.total(0, 0, 2), 0);
        Due.told(x, 0, "ohohoh");
        Due.is("21 at the last", x.total(0, 0, 2), 215);
        Due.is("20 at the last", x.sum(0, 0, 215), 216);
        Due.is("21 alone", x.total(0, 0, 1), 1);
        x = with(0, 6, 0, "o3");
        Due.is("21 at all", x.total(0, 0, 1) * 1000 + x.total(0, 0, 0), 216216);
    }

    /** "All numbers together (MODULO)" */
    private static void togetherModulo() {
        // A third is 6649, a quarter 7480.
        SurfaceSums x = with(1, 2, 2, "oh");
        Due.is("21 each", x.sum(0, 0, 0) + x.sum(0, 0, 1), 14129);
        Due.is("21 together", x.total(0, 0, 3), 14129 - 9973);
        x = with(1, 6, 9, "ohohoh");
        long all = 0;
        for (int place = 0; place < 216; place++) {
            all += x.sum(0, 0, place);
        }
        Due.is("21 of the most places", x.total(0, 0, 3), all % 9973);
    }

    /** Exactly 9973 together are 0. */
    private static void togetherExactly() {
        SurfaceSums x = with(4, 1, 0, "owohx");
        // Elements 1 0, 1 with a handle's 2 behind the exchange; 0 1, 1 with the other sign.
        Due.is("20 place 3", x.sum(0, 0, 3), 2);
        Due.is("20 place 6", x.sum(0, 0, 6), 9971);
        Due.is("21 not 0", x.total(0, 0, 1), 2);
        Due.is("21 first", x.total(0, 0, 2), 3);
        Due.is("21 together", x.total(0, 0, 3), 0);
        x.plan(1, 1);
        x.plan(0, 4);
        Due.is("28 together", x.behind(0, 10), 0);
    }

    /** A sum of fewer places, asked behind one of the most, has nothing of it. */
    private static void afterGreater() {
        SurfaceSums x = with(0, 6, 0, "o3");
        x.algebra(4, 1, 0);
        Due.told(x, 1, "oh2o");
        Due.told(x, 2, "ohoc");
        Due.is("21 most places", x.total(0, 0, 1), 216);
        Due.is("21 nothing of it", x.total(1, 1, 1), 0);
        Due.is("21 most places", x.total(0, 0, 1), 216);
        Due.is("20 nothing of it", x.sum(2, 1, 1), 0);
        Due.is("22 most places", x.alike(0, 0, 0), 1);
        Due.is("22 nothing of it", x.alike(1, 1, 1), 1);
        Due.is("21 most places", x.total(0, 0, 1), 216);
        Due.is("21 first: nothing of it", x.total(1, 1, 2), -5);
        Due.is("21 most places", x.total(0, 0, 1), 216);
        Due.is("21 together: nothing of it", x.total(1, 1, 3), 0);
    }

    /** A surface that had more circles before has nothing of them at its end. */
    private static void afterGreaterInOne() {
        String[] texts = {"o3xcx", "o3xcxh", "o3xcxk", "o3xxcc", "o3xccw", "o3xcm", "o3cx", "o3cxx"};
        int[] due = {6, 6, 6, 36, 36, 6, 6, 6};
        int[] notZero = {36, 36, 36, 6, 6, 6, 36, 36};
        for (int i = 0; i < texts.length; i++) {
            SurfaceSums x = with(0, 6, 0, texts[i]);
            Due.is("21 how many of " + texts[i], x.total(0, 0, 1), notZero[i]);
            Due.is("20 the first of " + texts[i], x.sum(0, 0, 0), due[i]);
            Due.is("21 together of " + texts[i], x.total(0, 0, 3), due[i] * notZero[i]);
        }
    }

    /** "At most 3" circles, "SIZE n 1 .. 6": each piece that can stand on them. */
    private static void eachPieceOnTheMost() {
        // By points each place of as many discs is 1; a cap counts six of them, pants and handles leave all.
        String[] texts = {"o3", "o3m", "o3c", "o3x", "o3h", "o3k", "o2o", "o2w", "o2m", "o2c", "o2x", "ow", "ow2"};
        int[] places = {216, 36, 36, 216, 216, 216, 216, 216, 6, 6, 36, 36, 216};
        int[] each = {1, 1, 6, 1, 1, 1, 1, 1, 1, 6, 1, 1, 1};
        int[] notZero = {216, 36, 36, 216, 216, 216, 216, 36, 6, 6, 36, 6, 6};
        for (int i = 0; i < texts.length; i++) {
            SurfaceSums x = with(0, 6, 0, texts[i]);
            Due.is("21 places of " + texts[i], x.total(0, 0, 0), places[i]);
            Due.is("21 not 0 of " + texts[i], x.total(0, 0, 1), notZero[i]);
            Due.is("21 together of " + texts[i], x.total(0, 0, 3), notZero[i] * each[i]);
            Due.is("20 the last of " + texts[i], x.sum(0, 0, places[i] - 1), each[i]);
            Due.is("20 one behind of " + texts[i], x.sum(0, 0, places[i]), -1);
        }
    }

    /** "Unlike numbers of circles: 0" */
    private static void alikeByCircles() {
        // Of one element each place is 1, however many circles there are.
        String[] texts = {"", "o", "oo", "ooo"};
        for (int one = 0; one < 4; one++) {
            for (int other = 0; other < 4; other++) {
                SurfaceSums x = with(0, 1, 0, texts[one]);
                if (other > 0) {
                    Due.told(x, 1, texts[other]);
                }
                Due.is("22 " + one + " and " + other + " circles", x.alike(0, 1, 0), one == other ? 1 : 0);
            }
        }
    }

    private static void alikeAtTheFirst() {
        SurfaceSums x = with(2, 3, 0, "o");
        Due.told(x, 1, "oh");
        Due.is("20 otherwise at the first alone", x.sum(0, 0, 0) * 10 + x.sum(1, 0, 0), 13);
        Due.is("22 unlike", x.alike(0, 1, 0), 0);
        Due.told(x, 0, "oc");
        Due.told(x, 1, "ohc");
        Due.is("22 unlike, of no circles", x.alike(0, 1, 0), 0);
        Due.told(x, 1, "ococ");
        Due.is("22 alike, of no circles", x.alike(0, 1, 0), 1);
        Due.is("22 alike, of no pieces", x.alike(2, 1, 0), 1);
    }

    private static void alikeAtTheLast() {
        // A handle on the third circle is 1 by the trace there: unlike from the second of six elements on.
        SurfaceSums x = with(1, 6, 0, "ooo");
        Due.told(x, 1, "oooh");
        Due.is("20 the first is the same", x.sum(0, 0, 0) - x.sum(1, 0, 0), 0);
        Due.is("20 the last is not", x.sum(0, 0, 215) == x.sum(1, 0, 215) ? 1 : 0, 0);
        Due.is("22 unlike", x.alike(0, 1, 0) + x.alike(1, 0, 0), 0);
        Due.is("22 itself", x.alike(1, 1, 0), 1);
        // By a twist handles on all circles are at the last place alone.
        x = with(3, 2, 1, "ohohoh");
        Due.told(x, 1, "ohohohk");
        Due.is("20 at the last alone", x.sum(0, 0, 7) * 100 + x.sum(1, 0, 7), 816);
        Due.is("22 unlike at the last alone", x.alike(0, 1, 0), 0);
    }

    private static void alikeOfZeros() {
        SurfaceSums x = with(4, 1, 0, "oh2");
        Due.told(x, 1, "oh3");
        Due.told(x, 2, "oh2o");
        Due.told(x, 3, "oh2c");
        Due.is("22 both all 0", x.alike(0, 1, 0), 1);
        Due.is("22 both all 0, otherwise many", x.alike(0, 2, 0) + x.alike(0, 3, 0) + x.alike(3, 2, 0), 0);
    }

    /** "An object is used for at most 512 calls": 512 of the dearest end, with the answer of the first. */
    private static void dearest() {
        SurfaceSums x = with(3, 6, 9, "o3m2w2m2w2m2w2m2w2m2w2k");
        Due.told(x, 1, "o3m2w2m2w2m2w2m2w2m2w2h");
        int first = x.alike(0, 1, 0) * 10000 + x.total(0, 0, 3);
        for (int i = 0; i < 250; i++) {
            Due.is("22 call " + i, x.alike(0, 1, 0) * 10000 + x.total(0, 0, 3), first);
        }
    }
}
