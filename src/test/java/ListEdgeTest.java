/** Edges of promises 31 to 37, of what the terms say of lists and THE IMAGE, and of "Answers" and "Details". */
public final class ListEdgeTest {
    private static final int LOW = Integer.MIN_VALUE, HIGH = Integer.MAX_VALUE;

    public static void main(String[] args) {
        fourLists();
        nothingAtFirst();
        noPlaces();
        twelvePlaces();
        below();
        againAllZero();
        anyInt();
        beyond();
        nothingBeforeBeyond();
        judgeEmptyList();
        judgeLongerThanTheSum();
        judgeListAlone();
        judgeNumbersAsTheyAre();
        judgeFirstAndLast();
        judgeRefused();
        judgeWhenAsked();
        noImage();
        imageOfNothing();
        imageOfAll();
        imageOfRows();
        imageTakenAgain();
        imageHoldsNotThese();
        undoTwice();
        undoOfAlgebras();
        counts();
        Due.end();
    }

    /** "LISTS 0 .. 3" */
    private static void fourLists() {
        SurfaceSums x = new SurfaceSums();
        for (int list : new int[] {-1, 4, LOW, HIGH}) {
            Due.is("32 list " + list, x.list(list, 1), -1);
            Due.is("32 list before n " + list, x.list(list, 13), -1);
            Due.is("32 list before n " + list, x.list(list, -1), -1);
            Due.is("33 list " + list, x.put(list, 0, 1), -1);
            Due.is("34 list " + list, x.get(list, 0), SurfaceSums.NO);
        }
        for (int list = 0; list < 4; list++) {
            Due.is("32 list " + list, x.list(list, list + 1), 1);
            Due.is("33 the last", x.put(list, list, 10 + list), 1);
        }
        for (int list = 0; list < 4; list++) {
            Due.is("34 the last", x.get(list, list), 10 + list);
            Due.is("34 one behind", x.get(list, list + 1), SurfaceSums.NO);
        }
    }

    /** "Hold nothing (at first)"; "NOTHING (-11): none is held" */
    private static void nothingAtFirst() {
        SurfaceSums x = new SurfaceSums();
        x.algebra(0, 1, 0);
        for (int list = 0; list < 4; list++) {
            Due.is("34 nothing there", x.get(list, 0), SurfaceSums.NO);
            Due.is("33 nothing there", x.put(list, 0, 1), -11);
            Due.is("31 nothing there", x.judge(list, 0, 0), -11);
            Due.is("34 still nothing", x.get(list, 0), SurfaceSums.NO);
        }
    }

    /** "A row of 0 .. 12 ints": none is held otherwise than nothing. */
    private static void noPlaces() {
        SurfaceSums x = new SurfaceSums();
        x.algebra(0, 1, 0);
        Due.is("32 none", x.list(0, 0), 1);
        Due.is("33 beyond", x.put(0, 0, 1), -13);
        Due.is("34 no such place", x.get(0, 0), SurfaceSums.NO);
        Due.is("31 no place is otherwise", x.judge(0, 0, 0), -5);
        Due.is("33 others hold nothing", x.put(1, 0, 1), -11);
    }

    /** "BAD: n above 12" */
    private static void twelvePlaces() {
        SurfaceSums x = new SurfaceSums();
        Due.is("32 one above", x.list(0, 13), -2);
        Due.is("32 far above", x.list(0, HIGH), -2);
        Due.is("33 nothing is held", x.put(0, 0, 1), -11);
        Due.is("32 the most", x.list(0, 12), 1);
        Due.is("33 the last", x.put(0, 11, 5), 1);
        Due.is("33 one behind", x.put(0, 12, 5), -13);
        Due.is("32 one above", x.list(0, 13), -2);
        Due.is("34 as it was", x.get(0, 11), 5);
    }

    /** "BELOW (-14): a size below 0" */
    private static void below() {
        SurfaceSums x = new SurfaceSums();
        Due.is("32 one below", x.list(2, -1), -14);
        Due.is("32 far below", x.list(2, LOW), -14);
        Due.is("33 nothing is held", x.put(2, 0, 1), -11);
        x.list(2, 1);
        x.put(2, 0, 9);
        Due.is("32 one below", x.list(2, -1), -14);
        Due.is("34 as it was", x.get(2, 0), 9);
    }

    /** "A LIST becomes a row of n ints, all 0" */
    private static void againAllZero() {
        SurfaceSums x = new SurfaceSums();
        for (int n : new int[] {12, 1, 12, 0, 12}) {
            Due.is("32 list", x.list(1, n), 1);
            for (int i = 0; i < n; i++) {
                Due.is("34 place " + i, x.get(1, i), 0);
                x.put(1, i, -1);
            }
            Due.is("34 one behind", x.get(1, n), SurfaceSums.NO);
        }
    }

    private static void anyInt() {
        SurfaceSums x = new SurfaceSums();
        x.list(0, 4);
        int[] values = {LOW, HIGH, -1, 9973};
        for (int i = 0; i < 4; i++) {
            Due.is("33 put", x.put(0, i, values[i]), 1);
        }
        for (int i = 0; i < 4; i++) {
            Due.is("34 get", x.get(0, i), values[i]);
        }
    }

    /** "BEYOND (-13): no such place" */
    private static void beyond() {
        SurfaceSums x = new SurfaceSums();
        x.list(3, 5);
        for (int i : new int[] {-1, 5, 12, LOW, HIGH}) {
            Due.is("33 place " + i, x.put(3, i, 1), -13);
            Due.is("34 place " + i, x.get(3, i), SurfaceSums.NO);
        }
        Due.is("33 the last", x.put(3, 4, 1), 1);
        Due.is("34 no other", x.get(3, 0) + x.get(3, 1) + x.get(3, 2) + x.get(3, 3), 0);
        // A place that a longer row had is gone with it.
        x.list(3, 12);
        x.list(3, 2);
        Due.is("33 a place that was", x.put(3, 2, 1), -13);
    }

    private static void nothingBeforeBeyond() {
        SurfaceSums x = new SurfaceSums();
        Due.is("33 nothing", x.put(0, -1, 1) + x.put(0, 12, 1), -22);
        Due.is("33 none", x.put(-1, -1, 1) + x.put(4, 12, 1), -2);
    }

    /** A twist of 2 by 3: "ohw" is 6, 0, 0, 2. */
    private static SurfaceSums told(int... list) {
        SurfaceSums x = new SurfaceSums();
        x.algebra(3, 2, 3);
        Due.told(x, 0, "ohw");
        x.list(0, list.length);
        for (int i = 0; i < list.length; i++) {
            x.put(0, i, list[i]);
        }
        return x;
    }

    private static void judgeEmptyList() {
        Due.is("31 no places", told().judge(0, 0, 0), -5);
        Due.is("31 no places, no pieces", told().judge(0, 1, 0), -5);
    }

    /** "At PLACES 0, 1, 2, .. (0 at PLACES it hasn't)" */
    private static void judgeLongerThanTheSum() {
        Due.is("31 as many", told(6, 0, 0, 2).judge(0, 0, 0), -5);
        Due.is("31 0 beyond", told(6, 0, 0, 2, 0, 0, 0, 0, 0, 0, 0, 0).judge(0, 0, 0), -5);
        Due.is("31 not 0 beyond", told(6, 0, 0, 2, 1).judge(0, 0, 0), 4);
        Due.is("31 not 0 at the last", told(6, 0, 0, 2, 0, 0, 0, 0, 0, 0, 0, 1).judge(0, 0, 0), 11);
        Due.is("31 of no circles", told(1, 0, 0).judge(0, 1, 0), -5);
        Due.is("31 of no circles", told(1, 1).judge(0, 1, 0), 1);
    }

    /** "JUDGED are the PLACES of the LIST alone" */
    private static void judgeListAlone() {
        Due.is("31 the first alone", told(6).judge(0, 0, 0), -5);
        Due.is("31 three alone", told(6, 0, 0).judge(0, 0, 0), -5);
        SurfaceSums x = told(1, 1, 1, 1, 1, 1, 1, 1, 1, 1, 1, 1);
        x.algebra(0, 6, 0);
        Due.told(x, 1, "ooo");
        Due.is("31 twelve of 216", x.judge(0, 1, 1), -5);
        x.put(0, 11, 0);
        Due.is("31 the twelfth", x.judge(0, 1, 1), 11);
    }

    /** "Its numbers as they are" */
    private static void judgeNumbersAsTheyAre() {
        Due.is("31 not modulo", told(6 + 9973, 0, 0, 2).judge(0, 0, 0), 0);
        Due.is("31 not modulo", told(6, 9973, 0, 2).judge(0, 0, 0), 1);
        Due.is("31 nor below 0", told(6, 0, -9973, 2).judge(0, 0, 0), 2);
        Due.is("31 nor beyond", told(6, 0, 0, 2, 9973).judge(0, 0, 0), 4);
        SurfaceSums x = told(0, 9972);
        x.algebra(4, 2, 0);
        Due.told(x, 0, "ow");
        x.list(0, 10);
        x.put(0, 3, 1);
        x.put(0, 6, 1);
        x.put(0, 9, -1);
        Due.is("31 -1 is not 9972", x.judge(0, 0, 1), 9);
        x.put(0, 9, 9972);
        Due.is("31 9972 is", x.judge(0, 0, 1), -5);
    }

    /** "The first place that is otherwise; -5: none" */
    private static void judgeFirstAndLast() {
        Due.is("31 the first", told(5, 1, 1, 1).judge(0, 0, 0), 0);
        Due.is("31 the second", told(6, 1, 1, 1).judge(0, 0, 0), 1);
        Due.is("31 the last", told(6, 0, 0, 1).judge(0, 0, 0), 3);
        Due.is("31 none", told(6, 0, 0, 2).judge(0, 0, 0), -5);
    }

    /** "NONE: list, surface, algebra; NOTHING." */
    private static void judgeRefused() {
        SurfaceSums x = told(6, 0, 0, 2);
        for (int n : new int[] {-1, 4, LOW, HIGH}) {
            Due.is("31 list " + n, x.judge(n, 0, 0), -1);
            Due.is("31 surface " + n, x.judge(0, n, 0), -1);
            Due.is("31 algebra " + n, x.judge(0, 0, n), -1);
            Due.is("31 surface before nothing " + n, x.judge(1, n, 0), -1);
            Due.is("31 algebra before nothing " + n, x.judge(1, 0, n), -1);
        }
        Due.is("31 an algebra that has not come", x.judge(0, 0, 1), -1);
        Due.is("31 nothing", x.judge(1, 0, 0), -11);
    }

    /** "All is told as ALGEBRAS, SURFACES are when it is asked." */
    private static void judgeWhenAsked() {
        SurfaceSums x = told(6, 0, 0, 2);
        Due.is("31 before", x.judge(0, 0, 0), -5);
        x.becomes(0, 4);
        Due.is("31 by another figure", x.judge(0, 0, 0), 0);
        x.put(0, 0, 8);
        Due.is("31 told anew", x.judge(0, 0, 0), -5);
        x.cut(0, 0);
        Due.is("31 another surface", x.judge(0, 0, 0), 0);
    }

    /** "STATE: there is none." */
    private static void noImage() {
        SurfaceSums x = told(1);
        x.plan(0, 0);
        Due.is("36 none", x.undo(), -3);
        Due.is("36 all as it was", x.count(0) * 100 + x.count(1) * 10 + x.count(4), 131);
        Due.is("35 taken", x.image(), 1);
        Due.is("36 there is one", x.undo(), 1);
    }

    /** "THE IMAGE is taken: how many ALGEBRAS": of a new object it is one all the same. */
    private static void imageOfNothing() {
        SurfaceSums x = new SurfaceSums();
        Due.is("35 none", x.image(), 0);
        x.algebra(3, 2, 3);
        Due.told(x, 0, "ohw");
        Due.told(x, 3, "o");
        x.plan(0, 0);
        Due.is("36 none", x.undo(), 0);
        Due.is("36 all empty", x.count(0) + x.count(1) + x.count(4), 0);
        Due.is("36 no algebra", x.of(0, 0), -1);
        Due.is("36 no circles", x.shape(0, 1) + x.shape(3, 1), 0);
        Due.is("2 the first again", x.algebra(0, 1, 0), 0);
    }

    /** "THE IMAGE: ALGEBRAS, SURFACES, the PLAN": as many of each as there can be. */
    private static void imageOfAll() {
        SurfaceSums x = Room.full();
        Due.is("35 four", x.image(), 4);
        String[] letters = new String[4];
        int[] behind = new int[4];
        for (int s = 0; s < 4; s++) {
            letters[s] = Due.letters(x, s);
            behind[s] = x.behind(s, 0);
            x.becomes(s, 4);
        }
        for (int s = 0; s < 4; s++) {
            x.cut(s, 0);
        }
        x.plan(-1, 0);
        Due.is("36 four", x.undo(), 4);
        int[] figures = {9, 0, 3, 1};
        for (int s = 0; s < 4; s++) {
            Due.letters(x, s, letters[s]);
            Due.is("36 plan", x.behind(s, 0), behind[s]);
            Due.is("36 figure", x.of(s, 2), figures[s]);
        }
        Due.is("36 rows", x.count(4), 8);
        Due.is("36 full again", x.plan(0, 0) + x.algebra(0, 1, 0), -8);
    }

    /** Each ROW of the PLAN is as it was, what and v. */
    private static void imageOfRows() {
        int[][] rows = {{0, 0}, {0, 5}, {0, 2}, {2, 1}, {1, 2}, {0, 6}, {0, 2}, {0, 1}};
        SurfaceSums x = new SurfaceSums();
        SurfaceSums y = new SurfaceSums();
        x.algebra(3, 2, 3);
        y.algebra(3, 2, 3);
        Due.told(x, 1, "okc");
        Due.told(y, 1, "okc");
        for (int[] row : rows) {
            x.plan(row[0], row[1]);
            y.plan(row[0], row[1]);
        }
        x.image();
        x.plan(-1, 0);
        for (int i = 0; i < 8; i++) {
            x.plan(1, 9);
        }
        Due.is("28 all goes", x.behind(0, 0), 0);
        x.undo();
        for (int what : new int[] {0, 1, 2, 10}) {
            Due.is("36 behind " + what, x.behind(0, what), y.behind(0, what));
        }
        // A disc, a handle, a split; what is glued less two, a disc; the crosscap; no split on three circles; pants.
        Due.is("36 pieces", x.behind(0, 0), 3 + 1 + 1 + 1);
        Due.is("36 circles", x.behind(0, 1), 2);
    }

    private static void imageTakenAgain() {
        SurfaceSums x = new SurfaceSums();
        x.algebra(0, 1, 0);
        x.piece(0, 0);
        x.plan(0, 0);
        Due.is("35 one", x.image(), 1);
        x.algebra(2, 3, 0);
        x.piece(0, 5);
        x.plan(0, 6);
        Due.is("35 two", x.image(), 2);
        x.piece(0, 3);
        Due.is("36 the later one", x.undo(), 2);
        Due.letters(x, 0, "oh");
        Due.is("36 the later plan", x.count(4), 2);
    }

    /** "(Not LISTS, THE TAPE, THE PAPER)" */
    private static void imageHoldsNotThese() {
        SurfaceSums x = told(7);
        x.write(0);
        x.feed('o');
        x.image();
        x.put(0, 0, 8);
        x.list(1, 1);
        Due.told(x, 1, "okc");
        x.write(1);
        Due.feed(x, "oh");
        x.undo();
        Due.is("36 lists stay", x.get(0, 0) * 10 + x.get(1, 0), 80);
        Due.is("36 the paper stays", x.count(3) * 1000 + x.paper(1), 4000 + 'o');
        Due.is("36 the tape stays", x.count(2), 2);
        Due.is("36 surfaces do not", x.shape(1, 0), 0);
        Due.is("13 the tape as it was", x.surface(1), 2);
    }

    /** "All is as THE IMAGE": it stays, and what is done behind it does not change it. */
    private static void undoTwice() {
        SurfaceSums x = told(1);
        x.plan(0, 5);
        x.image();
        for (int i = 0; i < 3; i++) {
            x.becomes(0, 9);
            x.piece(0, 0);
            x.plan(1, 1);
            x.piece(2, 0);
            Due.is("36 undo " + i, x.undo(), 1);
            Due.is("36 figure", x.of(0, 2), 3);
            Due.is("36 sum", x.total(0, 0, 3), 8);
            Due.letters(x, 0, "ohw");
            Due.letters(x, 2, "");
            Due.is("36 plan", x.count(4) * 10 + x.behind(0, 0), 14);
        }
        x.cut(0, 1);
        x.undo();
        Due.is("36 three circles at most", x.piece(0, 0) + x.piece(0, 0), 4 - 3);
    }

    /** "All is as THE IMAGE: how many ALGEBRAS": more have come, or another one in the place of one. */
    private static void undoOfAlgebras() {
        SurfaceSums x = new SurfaceSums();
        x.algebra(1, 2, 3);
        x.image();
        x.algebra(2, 6, 0);
        x.algebra(2, 6, 0);
        x.algebra(2, 6, 0);
        Due.is("2 full", x.algebra(0, 1, 0), -4);
        Due.is("36 one", x.undo(), 1);
        Due.is("4 the second is gone", x.of(1, 0), -1);
        Due.is("2 the second again", x.algebra(4, 2, 0), 1);
        Due.is("4 another one", x.of(1, 3), 4);
        Due.is("5 by its own kind", x.product(1, 2, 1, 3), 9972);
        Due.is("36 one", x.undo(), 1);
        Due.is("7 the first as it was", x.element(0, 1, 0), 5);
    }

    /** "How many: 0 ALGEBRAS, 1 PIECES of all SURFACES, 2 bytes on THE TAPE, 3 of THE PAPER, 4 ROWS of the PLAN. BAD." */
    private static void counts() {
        SurfaceSums x = new SurfaceSums();
        for (int what : new int[] {-1, 5, LOW, HIGH}) {
            Due.is("37 what " + what, x.count(what), -2);
        }
        for (int what = 0; what < 5; what++) {
            Due.is("37 at first " + what, x.count(what), 0);
        }
        x = Room.full();
        for (int s = 0; s < 4; s++) {
            x.cut(s, 0);
            Due.told(x, s, "oh9h9h5");
            Due.told(x, s, "oh9h9h5");
        }
        Due.is("37 algebras", x.count(0), 4);
        Due.is("37 pieces of all", x.count(1), 96);
        Due.is("37 bytes", x.count(2), 0);
        Due.is("37 paper", x.count(3), 24);
        Due.is("37 rows", x.count(4), 8);
    }
}
