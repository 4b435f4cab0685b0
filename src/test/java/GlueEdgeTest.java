/** Edges of promises 23 to 26 and of what the terms say of gluing and draws: by each sentence a test of its own. */
public final class GlueEdgeTest {
    private static final int LOW = Integer.MIN_VALUE, HIGH = Integer.MAX_VALUE;

    public static void main(String[] args) {
        glueCirclesAtTheEnd();
        glueCirclesInBetween();
        glueTwentyFour();
        glueStateBeforeFull();
        glueItself();
        glueNone();
        gluedStandOnTheirOwn();
        cutEdges();
        cutCircles();
        drawsOneAndMost();
        drawsWhereNoneComes();
        drawsToThree();
        drawsToTwentyFour();
        drawsByAnyInt();
        oddsArguments();
        oddsOfOneSeed();
        oddsInLowestTerms();
        oddsAroundTheGreatestSeed();
        oddsOnNone();
        Due.end();
    }

    private static SurfaceSums with(String one, String other) {
        SurfaceSums x = new SurfaceSums();
        if (!one.isEmpty()) {
            Due.is("surface " + one, Math.min(0, Due.told(x, 0, one)), 0);
        }
        if (!other.isEmpty()) {
            Due.is("surface " + other, Math.min(0, Due.told(x, 1, other)), 0);
        }
        return x;
    }

    private static void glued(String one, String other, int due) {
        SurfaceSums x = with(one, other);
        Due.is("23 " + one + " and " + other, x.glue(0, 1), due);
        Due.letters(x, 0, due < 0 ? written(one) : written(one) + written(other));
        Due.letters(x, 1, written(other));
    }

    /** A text without its figures. */
    private static String written(String text) {
        SurfaceSums x = new SurfaceSums();
        Due.feed(x, text);
        x.surface(0);
        return Due.letters(x, 0);
    }

    /** "STATE: there would be more than 3 circles at some time": at the end. */
    private static void glueCirclesAtTheEnd() {
        glued("", "ooo", 3);
        glued("o", "oo", 3);
        glued("oo", "o", 3);
        glued("o", "ooo", -3);
        glued("oo", "oo", -3);
        glued("ooo", "o", -3);
        glued("oc", "ooo", 5);
        glued("ooocc", "oo", 7);
    }

    /** "At some time": in between, though there are fewer at the end; not what the one itself had before. */
    private static void glueCirclesInBetween() {
        glued("ooo", "oc", -3);
        glued("oo", "oc", 4);
        glued("oo", "owc", -3);
        glued("o", "owc", 4);
        glued("o", "owwmmc", -3);
        glued("", "owwmmc", 6);
        glued("o", "ocowwccc", -3);
        glued("o", "owwccc", -3);
        glued("owwmm", "ow", 7);
        glued("owwmmc", "ooo", 9);
    }

    /** "FULL: more than 24 PIECES" */
    private static void glueTwentyFour() {
        glued("oh9h9h4", "o", 24);
        glued("oh9h9h4", "oc", -4);
        glued("oh9h9h5", "o", -4);
        glued("o", "oh9h9h4", 24);
        glued("o", "oh9h9h5", -4);
        glued("", "oh9h9h5", 24);
        glued("oh9h9h4c", "oh9h9h4c", -4);
    }

    /** "FULL ... (behind STATE)" */
    private static void glueStateBeforeFull() {
        glued("o3h9h9h3", "o", -3);
        glued("oh9h9h5", "ooo", -3);
        glued("oh9h9h5", "oo", -4);
        glued("o2h9h9h4", "owc", -3);
    }

    /** "GLUED to a SURFACE is another one (or the same)" */
    private static void glueItself() {
        SurfaceSums x = with("ow", "owmkc");
        Due.is("23 itself: four circles", x.glue(0, 0), -3);
        Due.is("23 itself", x.glue(1, 1), 10);
        Due.letters(x, 1, "owmkcowmkc");
        Due.is("23 itself again", x.glue(1, 1), 20);
        Due.is("23 itself: 40", x.glue(1, 1), -4);
        x.cut(0, 1);
        Due.is("23 itself: two circles", x.glue(0, 0), 2);
        Due.is("23 itself: four circles", x.glue(0, 0), -3);
        Due.told(x, 2, "oh9hc");
        Due.is("23 itself: 12 and 12", x.glue(2, 2), 24);
        Due.told(x, 2, "oh9h2c");
        Due.is("23 itself: 13 and 13", x.glue(2, 2), -4);
    }

    /** "Rows of 0 .. 24 PIECES": of none, none come. */
    private static void glueNone() {
        glued("", "", 0);
        glued("ooo", "", 3);
        glued("oh9h9h5", "", 24);
        glued("o3h9h9h3", "", 24);
        SurfaceSums x = new SurfaceSums();
        Due.is("23 none to itself", x.glue(3, 3), 0);
        Due.is("23 one below", x.glue(-1, 0) + x.glue(0, -1), -2);
        Due.is("23 one above", x.glue(4, 0) + x.glue(0, 4), -2);
    }

    /** "They stand on circles of their own" */
    private static void gluedStandOnTheirOwn() {
        SurfaceSums x = with("ow", "okh");
        Due.is("23 on its own", x.glue(0, 1), 5);
        Due.is("16 parts", x.shape(0, 2), 2);
        Due.is("17 the first as before", x.part(0, 0, 1) * 10 + x.part(0, 0, 2), 1000);
        Due.is("17 the second as it is", x.part(0, 1, 1) * 10 + x.part(0, 1, 2), 981);
        Due.is("18 the last circle", x.rim(0, 2), 1);
    }

    /** "BAD: k (0 .. as many as it has)" */
    private static void cutEdges() {
        SurfaceSums x = with("oh9h9h5", "oh");
        for (int k : new int[] {-1, 25, LOW, HIGH}) {
            Due.is("24 k " + k, x.cut(0, k), -2);
        }
        Due.is("24 all stay", x.cut(0, 24), 24);
        Due.is("24 all but one stay", x.cut(0, 23), 24);
        Due.is("24 one more than there are", x.cut(0, 24), -2);
        Due.is("24 none stays", x.cut(0, 0), 23);
        Due.is("24 none of none", x.cut(0, 0), 0);
        Due.is("24 one of none", x.cut(0, 1), -2);
        Due.letters(x, 1, "oh");
        Due.is("24 a new disc", x.piece(0, 0), 1);
        Due.is("24 one below", x.cut(-1, 0), -1);
        Due.is("24 one above", x.cut(4, 0), -1);
    }

    /** "Its first k PIECES stay": so do the circles that there were behind them. */
    private static void cutCircles() {
        String text = "oowxmhkcow";
        int[] circles = {0, 1, 2, 3, 3, 2, 2, 2, 1, 2, 3};
        for (int k = 0; k <= text.length(); k++) {
            SurfaceSums x = with(text, "");
            Due.is("24 cut", x.cut(0, k), 10);
            Due.letters(x, 0, text.substring(0, k));
            Due.is("24 circles of " + k, x.shape(0, 1), circles[k]);
        }
    }

    private static void drawn(String on, int n, int seed, String due) {
        SurfaceSums x = with(on, "");
        Due.is("25 " + n + " by " + seed + " on '" + on + "'", x.draws(0, n, seed), due.length());
        Due.letters(x, 0, due);
    }

    /** "n PIECES (1 .. 24) are DRAWN ... NONE; BAD." */
    private static void drawsOneAndMost() {
        SurfaceSums x = new SurfaceSums();
        for (int n : new int[] {0, 25, -1, LOW, HIGH}) {
            Due.is("25 n " + n, x.draws(0, n, 0), -2);
        }
        Due.is("25 nothing came", x.count(1), 0);
        Due.is("25 one below", x.draws(-1, 1, 0), -1);
        Due.is("25 one above", x.draws(4, 1, 0), -1);
        // By 0 are told: o o o h h w m w k c h x x o c c o h w o m w o o
        drawn("", 1, 0, "o");
        drawn("", 2, 0, "oo");
        drawn("", 5, 0, "ooohh");
        drawn("", 24, 0, "ooohhmwkchxxoccohwmw");
    }

    /** "The PIECE (z >>> 16) % 7 comes, if it CAN stand ... else none"; "n DRAWS are drawn also where none comes" */
    private static void drawsWhereNoneComes() {
        // By 1 are told: c h h w o o w o m h h k h o x w w w m c c w k o
        drawn("", 1, 1, "");
        drawn("", 4, 1, "");
        drawn("", 5, 1, "o");
        drawn("", 8, 1, "oow");
        drawn("", 24, 1, "oowmhhkhoxmcco");
        drawn("o", 1, 1, "oc");
        drawn("o", 4, 1, "oc");
        drawn("oo", 4, 1, "oochhw");
    }

    /** "A PIECE CAN stand ... not more than 3 behind it", drawn. */
    private static void drawsToThree() {
        drawn("ooo", 1, 0, "ooo");
        drawn("ooo", 5, 0, "ooohh");
        drawn("ooo", 7, 0, "ooohhm");
    }

    /** "And there are fewer than 24" */
    private static void drawsToTwentyFour() {
        SurfaceSums x = with("oh9h9h3", "oh9h9h5");
        // By 5 are told: o w x k and so on.
        Due.is("25 two of four come", x.draws(0, 4, 5), 24);
        Due.is("15 the 23rd", x.pieceOf(0, 22), 0);
        Due.is("15 the 24th", x.pieceOf(0, 23), 2);
        Due.is("16 circles", x.shape(0, 1), 3);
        Due.is("25 none comes", x.draws(1, 24, 5), 24);
        Due.is("16 circles", x.shape(1, 1), 1);
        Due.is("25 nor by one", x.draws(1, 1, 0), 24);
    }

    /** "z becomes z * 1103515245 + 12345 (an int; SEED at first); the PIECE (z >>> 16) % 7" */
    private static void drawsByAnyInt() {
        drawn("", 24, -1, "ohcocohwok");
        drawn("", 24, HIGH, "ookkwmcc");
        drawn("", 24, LOW, "o");
        drawn("", 24, 6, "ohwmcocohk");
        // By the greatest and the least are told: x and o, m and k at first.
        drawn("", 1, HIGH, "");
        drawn("", 2, HIGH, "o");
        drawn("oo", 2, LOW, "oomk");
    }

    private static void oddsAre(int n, int seed, int m, long above, long below) {
        SurfaceSums x = new SurfaceSums();
        Due.is("26 above, " + n + " by " + seed + " of " + m, x.odds(n, seed, m, 0), above);
        Due.is("26 below, " + n + " by " + seed + " of " + m, x.odds(n, seed, m, 1), below);
    }

    /** "NO: n, m, part." */
    private static void oddsArguments() {
        SurfaceSums x = new SurfaceSums();
        for (int part = 0; part < 2; part++) {
            for (int n : new int[] {0, 25, -1, LOW, HIGH}) {
                Due.is("26 n " + n, x.odds(n, 0, 1, part), SurfaceSums.NO);
            }
            for (int m : new int[] {0, 31, -1, LOW, HIGH}) {
                Due.is("26 m " + m, x.odds(1, 0, m, part), SurfaceSums.NO);
            }
        }
        for (int part : new int[] {-1, 2, LOW, HIGH}) {
            Due.is("26 part " + part, x.odds(1, 0, 1, part), SurfaceSums.NO);
        }
        oddsAre(24, 0, 30, 1, 5);
        oddsAre(1, 0, 30, 4, 5);
        oddsAre(24, 1, 4, 1, 2);
    }

    /** "0: 0 by 1"; "no PIECE at all leaves no circles" */
    private static void oddsOfOneSeed() {
        // 0 draws a disc, 1 a cap that can't stand.
        oddsAre(1, 0, 1, 0, 1);
        oddsAre(1, 1, 1, 1, 1);
        oddsAre(24, 0, 1, 0, 1);
        oddsAre(24, LOW, 10, 0, 1);
        oddsAre(24, HIGH, 1, 1, 1);
    }

    /** "In lowest terms" */
    private static void oddsInLowestTerms() {
        // By 1, 2, 3, 4 none comes; 0, 5, 7 draw a disc: of 10 seven are left.
        oddsAre(1, 1, 4, 1, 1);
        oddsAre(1, 0, 10, 7, 10);
        oddsAre(1, 0, 2, 1, 2);
        oddsAre(1, 0, 4, 3, 4);
        // Six of ten, 27, 20, 4 and 9 of 30.
        oddsAre(2, 0, 10, 3, 5);
        oddsAre(1, HIGH, 30, 9, 10);
        oddsAre(2, 0, 30, 2, 3);
        oddsAre(24, HIGH, 30, 2, 15);
        oddsAre(24, HIGH - 14, 30, 3, 10);
        oddsAre(2, HIGH, 30, 23, 30);
    }

    /** "SEED and each 1 more (an int)": behind the greatest comes the least. */
    private static void oddsAroundTheGreatestSeed() {
        oddsAre(2, HIGH, 1, 0, 1);
        oddsAre(2, LOW, 1, 1, 1);
        oddsAre(2, HIGH, 2, 1, 2);
        oddsAre(2, HIGH, 4, 3, 4);
        oddsAre(24, HIGH, 4, 1, 4);
        oddsAre(24, HIGH - 14, 10, 1, 2);
        oddsAre(1, -1, 2, 1, 2);
        oddsAre(2, -1, 4, 3, 4);
    }

    /** "Those by which n so DRAWN, on none, leave no circles": what surfaces there are does not matter. */
    private static void oddsOnNone() {
        SurfaceSums x = with("ooo", "oh9h9h5");
        Due.is("26 above", x.odds(2, 0, 10, 0), 3);
        Due.is("26 below", x.odds(2, 0, 10, 1), 5);
        Due.is("26 again", x.odds(2, 0, 10, 0), 3);
        Due.letters(x, 0, "ooo");
    }
}
