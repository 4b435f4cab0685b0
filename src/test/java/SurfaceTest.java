/** Promises 12 to 19: the tape, pieces, parts. Answers worked out by hand from the document. */
public final class SurfaceTest {
    private static final int LOW = Integer.MIN_VALUE, HIGH = Integer.MAX_VALUE;

    public static void main(String[] args) {
        feed();
        surface();
        faults();
        piece();
        pieceOf();
        shape();
        part();
        rim();
        match();
        Due.end();
    }

    private static void feed() {
        SurfaceSums x = new SurfaceSums();
        for (int letter : new int[] {0, -1, 128, LOW, HIGH}) {
            Due.is("12 bad", x.feed(letter), -2);
        }
        for (int i = 1; i <= 60; i++) {
            Due.is("12 feed", x.feed(i == 1 ? 1 : 127), i);
        }
        Due.is("12 full", x.feed('o'), -4);
        Due.is("12 bad before full", x.feed(0), -2);
        Due.is("12 count", x.count(2), 60);
    }

    private static void surface() {
        SurfaceSums x = new SurfaceSums();
        Due.feed(x, "o2wxmhkc2");
        Due.is("13 none", x.surface(4), -1);
        Due.is("13 none", x.surface(-1), -1);
        Due.is("13 tape stays", x.count(2), 9);
        Due.is("13 surface", x.surface(3), 9);
        Due.letters(x, 3, "oowxmhkcc");
        Due.is("13 tape is empty", x.count(2), 0);
        Due.is("13 in place of", Due.told(x, 3, "o"), 1);
        Due.letters(x, 3, "o");
        Due.is("13 fault", Due.told(x, 3, "oc?"), -102);
        Due.is("13 tape is empty", x.count(2), 0);
        Due.letters(x, 3, "o");
        Due.is("13 60 bytes", Due.told(x, 0, "ococococococococococococ".concat("o".repeat(36))), -124);
        Due.is("13 24 pieces", Due.told(x, 0, "ococococococococococococ"), 24);
    }

    private static void faults() {
        String[] texts = {"", "m", "w", "c", "x", "h", "k", "om", "ox", "oooo", "o3w", "o4", "ow3", "2", "o22", "o1",
            "o0", "oh2h22", "O", "o h", "oc2", "oh9h9h5", "oh9h9h5h", "oh9h9h6", "oh9h9h9o", "o3m3", "o2m2", "o:", "o/"};
        int[] due = {0, 0, 0, 0, 0, 0, 0, 1, 1, 3, 2, 1, 2, 0, 2, 1,
            1, 5, 0, 1, 2, NOT_A_FAULT, 7, 6, 6, 3, 3, 1, 1};
        SurfaceSums x = new SurfaceSums();
        for (int i = 0; i < texts.length; i++) {
            Due.is("13 fault of " + texts[i], Due.told(x, 0, texts[i]), due[i] == NOT_A_FAULT ? 24 : -100 - due[i]);
        }
        Due.is("13 highest", Due.told(x, 1, "o3m2"), 5);
        Due.letters(x, 1, "ooomm");
    }

    private static final int NOT_A_FAULT = -1;

    private static void piece() {
        SurfaceSums x = new SurfaceSums();
        for (int p = 1; p <= 6; p++) {
            Due.is("14 state", x.piece(0, p), -3);
        }
        for (int p : new int[] {-1, 7, LOW, HIGH}) {
            Due.is("14 none", x.piece(0, p), -1);
        }
        Due.is("14 none", x.piece(4, 0), -1);
        Due.is("14 none", x.piece(-1, 0), -1);
        int[] pieces = {0, 5, 6, 2, 2, 4, 1, 1, 3, 0};
        for (int i = 0; i < pieces.length; i++) {
            Due.is("14 piece", x.piece(0, pieces[i]), i + 1);
        }
        Due.is("14 pants on one", x.piece(0, 1), -3);
        Due.is("14 exchange on one", x.piece(0, 4), -3);
        Due.is("14 to three", x.piece(0, 2) * 100 + x.piece(0, 2), 1112);
        Due.is("14 disc on three", x.piece(0, 0), -3);
        Due.is("14 split on three", x.piece(0, 2), -3);
        for (int i = 13; i <= 24; i++) {
            Due.is("14 piece", x.piece(0, 5), i);
        }
        Due.is("14 full", x.piece(0, 5), -4);
        Due.is("14 state before full", x.piece(0, 0), -3);
        Due.letters(x, 0, "ohkwwxmmcowwhhhhhhhhhhhh");
    }

    private static void pieceOf() {
        SurfaceSums x = new SurfaceSums();
        Due.told(x, 2, "owxmhkc");
        int[] due = {0, 2, 4, 1, 5, 6, 3};
        for (int i = 0; i < due.length; i++) {
            Due.is("15 pieceOf " + i, x.pieceOf(2, i), due[i]);
        }
        Due.is("15 none", x.pieceOf(2, 7), -1);
        Due.is("15 none", x.pieceOf(2, -1), -1);
        Due.is("15 none", x.pieceOf(2, LOW), -1);
        Due.is("15 none", x.pieceOf(2, HIGH), -1);
        Due.is("15 none", x.pieceOf(4, 0), -1);
    }

    private static void shapeIs(String text, int... due) {
        SurfaceSums x = new SurfaceSums();
        Due.told(x, 1, text);
        for (int what = 0; what < 6; what++) {
            Due.is("16 shape of " + text + " " + what, x.shape(1, what), due[what]);
        }
    }

    private static void shape() {
        shapeIs("o", 1, 1, 1, 1, 0, 101);
        shapeIs("oc", 2, 0, 1, 1, 1, 102);
        shapeIs("o3", 3, 3, 3, 1, 0, 103);
        shapeIs("o3m2", 5, 1, 1, 1, 0, 101);
        shapeIs("ohcokc", 6, 0, 2, 2, 2, 101);
        shapeIs("ococohc", 7, 0, 3, 2, 3, 104);
        shapeIs("owxkm", 5, 1, 1, 1, 0, 98);
        shapeIs("owcoc", 5, 1, 2, 2, 1, 103);
        SurfaceSums x = new SurfaceSums();
        Due.is("16 none", x.shape(0, 6), -1);
        Due.is("16 none", x.shape(0, -1), -1);
        Due.is("16 none", x.shape(4, 0), -1);
        Due.is("16 none", x.shape(-1, 0), -1);
    }

    private static void part() {
        SurfaceSums x = new SurfaceSums();
        // Three parts: the exchange lets the handle come to the first disc, the crosscap to the second.
        Due.told(x, 0, "o2xhxkocwmc");
        // B: disc 1, crosscap, split, pants -1 each, cap 1.
        int[][] due = {{1, 99, 0, 1}, {0, 99, 1, 3}, {0, 102, 0, 0}};
        for (int k = 0; k < 3; k++) {
            for (int what = 0; what < 4; what++) {
                Due.is("17 part " + k + " " + what, x.part(0, k, what), due[k][what]);
            }
            Due.is("17 none", x.part(0, k, 4), -1);
            Due.is("17 none", x.part(0, k, -1), -1);
        }
        Due.is("17 none", x.part(0, 3, 0), -1);
        Due.is("17 none", x.part(0, -1, 0), -1);
        Due.is("17 none", x.part(4, 0, 0), -1);
        Due.is("17 none", x.part(1, 0, 0), -1);
        // A crosscap is kept as parts become one, whichever of them has it.
        Due.told(x, 1, "oko");
        Due.is("17 first is one-sided", x.part(1, 0, 2) * 10 + x.part(1, 1, 2), 10);
        x.piece(1, 1);
        Due.is("17 one-sided", x.part(1, 0, 2), 1);
        Due.told(x, 1, "o2km");
        Due.is("17 one-sided", x.part(1, 0, 2), 1);
        Due.is("17 euler", x.part(1, 0, 1), 100);
        Due.is("17 genus", x.part(1, 0, 3), 1);
        // Disc 1 is swallowed: what is told of disc 2 is told of part 1.
        Due.told(x, 1, "o2mok2");
        Due.is("17 numbered again", x.part(1, 0, 1) * 1000 + x.part(1, 1, 1), 101099);
        Due.is("17 numbered again", x.part(1, 0, 2) * 10 + x.part(1, 1, 2), 1);
        Due.told(x, 1, "o2kmo");
        Due.is("17 numbered again", x.part(1, 0, 2) * 10 + x.part(1, 1, 2), 10);
        Due.told(x, 1, "owm");
        Due.is("17 torus", x.part(1, 0, 3), 1);
        Due.told(x, 1, "oh9h9h4");
        Due.is("17 euler below 0", x.part(1, 0, 1), 100 + 1 - 44);
        Due.is("17 genus", x.part(1, 0, 3), 22);
    }

    private static void rim() {
        SurfaceSums x = new SurfaceSums();
        Due.told(x, 0, "o3x");
        Due.is("18 rim", x.rim(0, 0), 0);
        Due.is("18 rim", x.rim(0, 1), 2);
        Due.is("18 rim", x.rim(0, 2), 1);
        Due.is("18 none", x.rim(0, 3), -1);
        Due.is("18 none", x.rim(0, -1), -1);
        Due.is("18 none", x.rim(4, 0), -1);
        Due.is("18 none", x.rim(1, 0), -1);
        // The pants make the parts of the discs 1 and 2 one; its number is that of its first disc.
        Due.told(x, 1, "o3mx");
        Due.is("18 joined", x.rim(1, 0) * 10 + x.rim(1, 1), 10);
        // Disc 1 is swallowed by disc 0, so that disc 2 begins part 1.
        Due.told(x, 2, "o2mo");
        Due.is("18 numbered again", x.rim(2, 0) * 10 + x.rim(2, 1), 1);
        Due.is("18 parts", x.shape(2, 2), 2);
        Due.told(x, 3, "owo");
        Due.is("18 split", x.rim(3, 0) * 100 + x.rim(3, 1) * 10 + x.rim(3, 2), 1);
        Due.told(x, 3, "o2mox");
        Due.is("18 numbered again", x.rim(3, 0) * 10 + x.rim(3, 1), 10);
        // A swallows C, B is left: its circles are those in between.
        Due.told(x, 3, "o2xomx");
        Due.is("18 swallowed", x.rim(3, 0) * 10 + x.rim(3, 1), 1);
        Due.is("18 rims", x.part(3, 0, 0) * 10 + x.part(3, 1, 0), 11);
        Due.is("18 euler", x.part(3, 0, 1) * 1000 + x.part(3, 1, 1), 101101);
    }

    private static void match() {
        SurfaceSums x = new SurfaceSums();
        Due.told(x, 0, "ococohc");
        Due.told(x, 1, "ococococokc");
        Due.told(x, 2, "ok2c");
        Due.told(x, 3, "owmc");
        Due.is("19 match", x.match(0, 1), 2);
        Due.is("19 match", x.match(1, 0), 2);
        Due.is("19 itself", x.match(0, 0), 3);
        Due.is("19 itself", x.match(1, 1), 5);
        Due.is("19 same euler, otherwise sided", x.match(2, 3), 0);
        Due.is("19 tori", x.match(0, 3), 1);
        Due.told(x, 2, "oh");
        Due.told(x, 3, "owm");
        Due.is("19 rims", x.match(2, 3), 1);
        Due.told(x, 3, "owmc");
        Due.is("19 unlike rims", x.match(2, 3), 0);
        Due.is("19 none", x.match(4, 0), -1);
        Due.is("19 none", x.match(0, 4), -1);
        Due.is("19 none", x.match(-1, 0), -1);
        Due.is("19 without parts", new SurfaceSums().match(0, 1), 0);
    }
}
