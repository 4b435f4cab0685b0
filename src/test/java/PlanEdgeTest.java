/** Edges of promises 27 to 30 and of what the terms say of plans and THE PAPER: by each sentence a test of its own. */
public final class PlanEdgeTest {
    private static final int LOW = Integer.MIN_VALUE, HIGH = Integer.MAX_VALUE;

    public static void main(String[] args) {
        whats();
        values();
        eightRows();
        emptied();
        emptyPlan();
        pieceThatCanNot();
        pieceOnTwentyFour();
        piecesGo();
        gluedToTwentyFour();
        gluedCircles();
        gluedNone();
        gluedAsInTruth();
        whatIsLeftOut();
        behindWhats();
        behindOfNone();
        toldWhenAsked();
        paperAtFirst();
        paperOfNone();
        paperOfMost();
        paperLatest();
        writtenWithoutFigures();
        Due.end();
    }

    private static SurfaceSums with(String text, int... plan) {
        SurfaceSums x = new SurfaceSums();
        if (!text.isEmpty()) {
            Due.is("surface " + text, Math.min(0, Due.told(x, 0, text)), 0);
        }
        for (int i = 0; i < plan.length; i += 2) {
            Due.is("27 row", x.plan(plan[i], plan[i + 1]), i / 2 + 1);
        }
        return x;
    }

    private static void behindIs(SurfaceSums x, int surface, int pieces, int circles, int parts) {
        Due.is("28 pieces", x.behind(surface, 0), pieces);
        Due.is("28 circles", x.behind(surface, 1), circles);
        Due.is("28 parts", x.behind(surface, 2), parts);
    }

    /** "NONE: what"; "what -1: it is empty then, 0, whatever the other is" */
    private static void whats() {
        SurfaceSums x = new SurfaceSums();
        for (int what : new int[] {-2, 3, LOW, HIGH}) {
            Due.is("27 what " + what, x.plan(what, 1), -1);
            Due.is("27 what before v " + what, x.plan(what, -1), -1);
        }
        Due.is("27 no rows", x.count(4), 0);
        for (int v : new int[] {LOW, -1, 0, 10, HIGH}) {
            x.plan(0, 0);
            Due.is("27 empty, v " + v, x.plan(-1, v), 0);
            Due.is("27 no rows", x.count(4), 0);
        }
    }

    /** "BAD: v (by 0 0 .. 6; by 1 1 .. 9; by 2 0 .. 3)" */
    private static void values() {
        int[] least = {0, 1, 0}, greatest = {6, 9, 3};
        for (int what = 0; what < 3; what++) {
            SurfaceSums x = new SurfaceSums();
            Due.is("27 one below by " + what, x.plan(what, least[what] - 1), -2);
            Due.is("27 one above by " + what, x.plan(what, greatest[what] + 1), -2);
            Due.is("27 far off by " + what, x.plan(what, LOW) + x.plan(what, HIGH), -4);
            Due.is("27 no row by " + what, x.count(4), 0);
            Due.is("27 the least by " + what, x.plan(what, least[what]), 1);
            Due.is("27 the greatest by " + what, x.plan(what, greatest[what]), 2);
        }
    }

    /** "ROWS told by hand (8 at most)"; "FULL" */
    private static void eightRows() {
        SurfaceSums x = new SurfaceSums();
        for (int i = 1; i <= 7; i++) {
            Due.is("27 row", x.plan(2, 1), i);
        }
        Due.is("27 the eighth", x.plan(0, 0), 8);
        for (int what = 0; what < 3; what++) {
            Due.is("27 a ninth", x.plan(what, 1), -4);
            Due.is("27 bad before full", x.plan(what, 10), -2);
        }
        Due.is("27 none before full", x.plan(3, 10), -1);
        Due.is("37 still eight", x.count(4), 8);
        // All eight are done, the last one, too.
        behindIs(x, 0, 1, 1, 1);
    }

    private static void emptied() {
        SurfaceSums x = with("oh", 0, 0, 1, 9, 0, 0, 0, 0, 0, 2, 1, 1, 0, 3, 0, 0);
        Due.is("27 full", x.plan(0, 0), -4);
        Due.is("27 empty", x.plan(-1, 0), 0);
        behindIs(x, 0, 2, 1, 1);
        Due.is("27 the first again", x.plan(0, 3), 1);
        behindIs(x, 0, 3, 0, 1);
        Due.is("27 empty", x.plan(-1, 0), 0);
        Due.is("27 empty again", x.plan(-1, 0), 0);
    }

    private static void emptyPlan() {
        SurfaceSums x = with("ohw");
        x.algebra(2, 3, 0);
        behindIs(x, 0, 3, 2, 1);
        Due.is("28 as it is", x.behind(0, 10), x.total(0, 0, 3));
        behindIs(x, 1, 0, 0, 0);
    }

    /** "The PIECE v (0 .. 6) comes behind, if it CAN stand" */
    private static void pieceThatCanNot() {
        int[] needs = {0, 2, 1, 1, 2, 1, 1}, adds = {1, -1, 1, -1, 0, 0, 0};
        String[] texts = {"", "o", "oo", "ooo"};
        for (int circles = 0; circles < 4; circles++) {
            for (int piece = 0; piece < 7; piece++) {
                SurfaceSums x = with(texts[circles], 0, piece);
                boolean can = circles >= needs[piece] && circles + adds[piece] <= 3;
                Due.is("28 piece " + piece + " on " + circles, x.behind(0, 0), can ? circles + 1 : circles);
                Due.is("28 circles", x.behind(0, 1), can ? circles + adds[piece] : circles);
                Due.is("28 in thought alone", x.shape(0, 0), circles);
            }
        }
    }

    /** "And there are fewer than 24" */
    private static void pieceOnTwentyFour() {
        behindIs(with("oh9h9h4", 0, 0), 0, 24, 2, 2);
        behindIs(with("oh9h9h4", 0, 0, 0, 0), 0, 24, 2, 2);
        behindIs(with("oh9h9h5", 0, 0), 0, 24, 1, 1);
        behindIs(with("oh9h9h5", 0, 3), 0, 24, 1, 1);
        behindIs(with("oh9h9h5", 0, 3, 1, 1, 0, 3), 0, 24, 0, 1);
    }

    /** "Its last v PIECES (1 .. 9) go (all, if there are not so many)" */
    private static void piecesGo() {
        int[] circles = {0, 1, 2, 3, 2};
        for (int v = 1; v <= 9; v++) {
            SurfaceSums x = with("o2c2o2c2oc", 1, v);
            Due.is("28 of ten " + v + " go", x.behind(0, 0), 10 - v);
            x = with("ooomm", 1, v);
            Due.is("28 of five " + v + " go", x.behind(0, 0), Math.max(0, 5 - v));
            Due.is("28 circles of five less " + v, x.behind(0, 1), circles[Math.max(0, 5 - v)]);
            behindIs(with("", 1, v), 0, 0, 0, 0);
        }
        behindIs(with("oh8", 1, 9), 0, 0, 0, 0);
        behindIs(with("oh9", 1, 9), 0, 1, 1, 1);
        behindIs(with("oh7", 1, 9), 0, 0, 0, 0);
        behindIs(with("oh7", 1, 9, 0, 0), 0, 1, 1, 1);
    }

    /** "If there are no more than 24 then" */
    private static void gluedToTwentyFour() {
        SurfaceSums x = with("oh9h9h3", 2, 1);
        Due.told(x, 1, "oc");
        behindIs(x, 0, 24, 1, 2);
        Due.told(x, 1, "ohc");
        behindIs(x, 0, 22, 1, 1);
        Due.told(x, 0, "oh9h9h5");
        Due.told(x, 1, "o");
        behindIs(x, 0, 24, 1, 1);
    }

    /** "And no more than 3 circles at any time" */
    private static void gluedCircles() {
        String[] ones = {"oo", "oo", "o", "ooo", "o", "", "oo", "ooc"};
        String[] others = {"o", "oo", "owc", "oc", "owwmmc", "owwmmc", "owmc", "owmc"};
        int[] pieces = {3, 2, 4, 3, 1, 6, 2, 7};
        for (int i = 0; i < ones.length; i++) {
            SurfaceSums x = with(ones[i], 2, 1);
            Due.told(x, 1, others[i]);
            Due.is("28 " + ones[i] + " and " + others[i], x.behind(0, 0), pieces[i]);
        }
    }

    private static void gluedNone() {
        behindIs(with("ooo", 2, 1), 0, 3, 3, 3);
        behindIs(with("oh9h9h5", 2, 3), 0, 24, 1, 1);
        behindIs(with("", 2, 0), 0, 0, 0, 0);
    }

    /** "In a PLAN a SURFACE v is as in truth" */
    private static void gluedAsInTruth() {
        // In thought it is another one by then.
        behindIs(with("oc", 0, 0, 0, 5, 2, 0), 0, 6, 1, 3);
        behindIs(with("oc", 1, 9, 2, 0, 2, 0), 0, 4, 0, 2);
        behindIs(with("oc", 2, 0, 2, 0, 2, 0), 0, 8, 0, 4);
        SurfaceSums x = with("oc", 2, 0, 2, 0, 2, 0, 2, 0, 2, 0, 2, 0, 2, 0, 2, 0);
        behindIs(x, 0, 18, 0, 9);
        behindIs(x, 1, 16, 0, 8);
        Due.letters(x, 0, "oc");
    }

    /** "What cannot be is left out": the rows behind it are done. */
    private static void whatIsLeftOut() {
        SurfaceSums x = with("oo", 2, 1, 0, 4, 2, 0, 0, 5, 0, 0, 0, 0, 0, 2, 0, 3);
        Due.told(x, 1, "oo");
        // Neither is glued; exchange, handle, a third disc; neither a fourth nor a split; a cap.
        behindIs(x, 0, 6, 2, 3);
        behindIs(x, 2, 6, 2, 3);
        Due.told(x, 1, "o");
        behindIs(x, 0, 6, 2, 3);
    }

    /** "NONE: surface, what; no such ALGEBRA." */
    private static void behindWhats() {
        SurfaceSums x = with("oh");
        int[] wrong = {LOW, -1, 3, 4, 9, 14, 20, HIGH};
        for (int algebras = 0; algebras <= 4; algebras++) {
            for (int what : wrong) {
                Due.is("28 what " + what, x.behind(0, what), -1);
            }
            for (int a = 0; a < 4; a++) {
                Due.is("28 of " + algebras + " algebra " + a, x.behind(0, 10 + a), a < algebras ? a + 1 : -1);
            }
            // A handle by points is each of them once.
            x.algebra(0, algebras + 1, 0);
        }
        for (int surface : new int[] {-1, 4, LOW, HIGH}) {
            Due.is("28 surface " + surface, x.behind(surface, 0) + x.behind(surface, 10), -2);
        }
    }

    private static void behindOfNone() {
        SurfaceSums x = with("oh", 1, 2);
        x.algebra(4, 1, 0);
        behindIs(x, 0, 0, 0, 0);
        Due.is("28 1 of no circles", x.behind(0, 10), 1);
        Due.told(x, 0, "oh4");
        Due.is("28 two handles: 0", x.behind(0, 10) * 10 + x.behind(0, 0), 3);
    }

    /** "All is told as ALGEBRAS, SURFACES are when it is asked." */
    private static void toldWhenAsked() {
        SurfaceSums x = with("o", 2, 1, 0, 5);
        x.algebra(3, 2, 0);
        behindIs(x, 0, 2, 1, 1);
        Due.told(x, 1, "ohohmc");
        behindIs(x, 0, 8, 1, 2);
        Due.is("28 before", x.behind(0, 10), 0);
        // Two handles closed: 4 times element 0 has no trace, three 8 times FIGURE; one on the first disc is 2.
        Due.told(x, 1, "ohhhc");
        Due.is("28 before", x.behind(0, 10), 0);
        x.becomes(0, 5);
        Due.is("28 after", x.behind(0, 10), 40 * 2);
        x.cut(1, 0);
        Due.is("28 none is glued", x.behind(0, 10), 2);
    }

    /** "THE PAPER holds the latest one (nothing at first)" */
    private static void paperAtFirst() {
        SurfaceSums x = with("oh");
        for (int i : new int[] {LOW, -1, 0, 1, HIGH}) {
            Due.is("30 nothing at first", x.paper(i), -1);
        }
        Due.is("37 nothing at first", x.count(3), 0);
    }

    private static void paperOfNone() {
        SurfaceSums x = with("oh");
        Due.is("29 two", x.write(0), 2);
        Due.is("29 none", x.write(1), 0);
        Due.is("30 none", x.paper(0), -1);
        Due.is("37 none", x.count(3), 0);
    }

    private static void paperOfMost() {
        SurfaceSums x = with("oh9h9h4c");
        Due.is("29 24", x.write(0), 24);
        Due.is("30 the first", x.paper(0), 'o');
        Due.is("30 the last", x.paper(23), 'c');
        for (int i : new int[] {LOW, -1, 24, HIGH}) {
            Due.is("30 byte " + i, x.paper(i), -1);
        }
    }

    private static void paperLatest() {
        SurfaceSums x = with("oh9h9h5");
        Due.told(x, 1, "ok");
        x.write(0);
        Due.is("29 fewer", x.write(1), 2);
        Due.is("30 the last of it", x.paper(1), 'k');
        Due.is("30 not what was there", x.paper(2), -1);
        Due.is("29 refused", x.write(4) + x.write(-1), -2);
        Due.is("30 the latest stays", x.paper(1), 'k');
        x.cut(1, 0);
        Due.is("30 though it has gone", x.paper(1), 'k');
    }

    /** "WRITTEN is each PIECE as its letter, without figures." */
    private static void writtenWithoutFigures() {
        SurfaceSums x = with("o3x2m2w2h2k2c3");
        String due = "oooxxmmwwhhkkccc";
        Due.is("29 bytes", x.write(0), 16);
        for (int i = 0; i < 16; i++) {
            Due.is("30 byte " + i, x.paper(i), due.charAt(i));
        }
        // What is written can be read again.
        for (int i = 0; i < 16; i++) {
            x.feed(x.paper(i));
        }
        Due.is("13 read again", x.surface(1), 16);
        Due.is("19 the same", x.match(0, 1), x.shape(0, 2));
    }
}
