/** Edges of promises 12 to 19 and of the second part of the terms: by each sentence that names one a test of its own. */
public final class SurfaceEdgeTest {
    private static final int LOW = Integer.MIN_VALUE, HIGH = Integer.MAX_VALUE;
    private static final String LETTERS = "omwcxhk";
    /** By piece: the circles it needs, those it adds. */
    private static final int[] NEEDS = {0, 2, 1, 1, 2, 1, 1}, ADDS = {1, -1, 1, -1, 0, 0, 0};
    private static final String[] BY_CIRCLES = {"", "o", "oo", "ooo"};

    public static void main(String[] args) {
        bytes();
        tapeOfSixty();
        firstByte();
        secondByte();
        figureBehindLetter();
        figureBehindFigure();
        faultByTooFewCircles();
        faultByTooManyCircles();
        faultByTooManyPieces();
        faultOfEmpty();
        firstFaultCounts();
        tapeIsEmptyBehind();
        tapeStays();
        faultChangesNoSurface();
        canStand();
        fullBehindState();
        fourSurfaces();
        pieceOf();
        noParts();
        mostParts();
        eulerFarDown();
        partsMadeOne();
        partsNumberedAgain();
        partsAskedAgain();
        exchangeIsOfNone();
        rims();
        genus();
        unlike();
        matchEachOfItsOwn();
        matchOfNone();
        Due.end();
    }

    private static SurfaceSums with(String text) {
        SurfaceSums x = new SurfaceSums();
        if (!text.isEmpty()) {
            Due.is("surface " + text, Math.min(0, Due.told(x, 0, text)), 0);
        }
        return x;
    }

    /** "A byte (1 .. 127) comes behind THE TAPE's ... BAD" */
    private static void bytes() {
        SurfaceSums x = new SurfaceSums();
        Due.is("12 one below", x.feed(0), -2);
        Due.is("12 one above", x.feed(128), -2);
        Due.is("12 far below", x.feed(LOW) + x.feed(-1), -4);
        Due.is("12 far above", x.feed(HIGH) + x.feed(256 + 'o'), -4);
        Due.is("12 nothing came", x.count(2), 0);
        Due.is("12 the least", x.feed(1), 1);
        Due.is("12 the greatest", x.feed(127), 2);
        Due.is("12 two came", x.count(2), 2);
    }

    /** "THE TAPE (60 bytes at most)"; "FULL" */
    private static void tapeOfSixty() {
        SurfaceSums x = new SurfaceSums();
        for (int i = 1; i <= 59; i++) {
            x.feed('o');
        }
        Due.is("12 the 60th", x.feed('?'), 60);
        Due.is("12 the 61st", x.feed('o'), -4);
        Due.is("12 the 61st did not come", x.count(2), 60);
        Due.is("13 of a full one", x.surface(0), -103);
        Due.is("12 there is room again", x.feed('o'), 1);
        Due.is("13 nothing is left of it", x.surface(0), 1);
    }

    /** "The first byte that is no such letter, nor such a figure right behind a letter": the first one of all. */
    private static void firstByte() {
        for (int b = 1; b <= 127; b++) {
            SurfaceSums x = new SurfaceSums();
            x.feed(b);
            Due.is("13 byte " + b, x.surface(0), b == 'o' ? 1 : -100);
        }
    }

    /** The same, of the one behind a letter and of the one behind a figure. */
    private static void secondByte() {
        for (int b = 1; b <= 127; b++) {
            int piece = LETTERS.indexOf(b);
            SurfaceSums x = new SurfaceSums();
            Due.feed(x, "oh");
            x.feed(b);
            boolean stands = piece >= 0 && NEEDS[piece] < 2;
            boolean figure = b >= '2' && b <= '9';
            Due.is("13 oh and byte " + b, x.surface(0), stands ? 3 : figure ? 1 + b - '0' : -102);
            Due.feed(x, "o2");
            x.feed(b);
            Due.is("13 o2 and byte " + b, x.surface(0), piece >= 0 ? 3 : -102);
        }
    }

    /** "Each perhaps with a figure 2 .. 9 behind it (so many times)" */
    private static void figureBehindLetter() {
        SurfaceSums x = new SurfaceSums();
        Due.is("13 below the least", Due.told(x, 0, "oh1"), -102);
        Due.is("13 below the least", Due.told(x, 0, "oh0"), -102);
        Due.is("13 above the greatest", Due.told(x, 0, "oh:"), -102);
        Due.is("13 of two figures", Due.told(x, 0, "oh10"), -102);
        Due.is("13 the least", Due.told(x, 0, "oh2"), 3);
        Due.letters(x, 0, "ohh");
        Due.is("13 the greatest", Due.told(x, 0, "oh9"), 10);
        Due.letters(x, 0, "ohhhhhhhhh");
        Due.is("13 of each letter", Due.told(x, 0, "o3x2m2w2x2h2k2c3"), 18);
        Due.letters(x, 0, "oooxxmmwwxxhhkkccc");
    }

    /** "Such a figure right behind a letter" */
    private static void figureBehindFigure() {
        SurfaceSums x = new SurfaceSums();
        Due.is("13 behind a figure", Due.told(x, 0, "o22"), -102);
        Due.is("13 at first", Due.told(x, 0, "2"), -100);
        Due.is("13 behind no letter", Due.told(x, 0, "o h2"), -101);
        Due.is("13 behind a letter behind a figure", Due.told(x, 0, "o2h2"), 4);
    }

    /** "Or by which a PIECE CAN not stand" */
    private static void faultByTooFewCircles() {
        SurfaceSums x = new SurfaceSums();
        for (char c : "mwcxhk".toCharArray()) {
            Due.is("13 on none: " + c, Due.told(x, 0, "" + c), -100);
            Due.is("13 on none again: " + c, Due.told(x, 0, "oc" + c), -102);
        }
        Due.is("13 pants on one", Due.told(x, 0, "om"), -101);
        Due.is("13 exchange on one", Due.told(x, 0, "ox"), -101);
        Due.is("13 by a figure: pants", Due.told(x, 0, "o2m2"), -103);
        Due.is("13 by a figure: caps", Due.told(x, 0, "o2c3"), -103);
        Due.is("13 by a figure: just enough", Due.told(x, 0, "o2c2"), 4);
        Due.is("13 by a figure: just enough", Due.told(x, 0, "o3m2"), 5);
    }

    private static void faultByTooManyCircles() {
        SurfaceSums x = new SurfaceSums();
        Due.is("13 three", Due.told(x, 0, "ooo"), 3);
        Due.is("13 a fourth", Due.told(x, 0, "oooo"), -103);
        Due.is("13 a fourth by a split", Due.told(x, 0, "oow2"), -103);
        Due.is("13 a fourth by a figure", Due.told(x, 0, "o4"), -101);
        Due.is("13 three by a figure", Due.told(x, 0, "o3"), 3);
        Due.is("13 three by splits", Due.told(x, 0, "ow2"), 3);
        Due.is("13 a fourth by splits", Due.told(x, 0, "ow3"), -102);
        Due.is("13 three again", Due.told(x, 0, "o3cocwcw"), 9);
    }

    /** "Or there would be more than 24 (of a figure: its own place)" */
    private static void faultByTooManyPieces() {
        SurfaceSums x = new SurfaceSums();
        String letters = "ocococococococococococoh";
        Due.is("13 24 letters", Due.told(x, 0, letters), 24);
        Due.is("13 a 25th letter", Due.told(x, 0, letters + "h"), -124);
        Due.is("13 a 25th by a figure", Due.told(x, 0, letters + "2"), -124);
        Due.is("13 24 by figures", Due.told(x, 0, "oh9h9h5"), 24);
        Due.is("13 a 25th by a figure", Due.told(x, 0, "oh9h9h6"), -106);
        Due.is("13 many more by a figure", Due.told(x, 0, "oh9h9h9"), -106);
        Due.is("13 a 25th behind a figure", Due.told(x, 0, "oh9h9h5h"), -107);
        Due.is("13 a 25th that can't stand", Due.told(x, 0, "oh9h9h5x"), -107);
        Due.is("13 no byte behind is looked at", Due.told(x, 0, "oh9h9h6?"), -106);
    }

    /** "Of an empty one 0" */
    private static void faultOfEmpty() {
        SurfaceSums x = with("oh");
        Due.is("13 empty", x.surface(0), -100);
        Due.letters(x, 0, "oh");
        Due.is("13 empty again", x.surface(0), -100);
        Due.is("13 empty for another", x.surface(3), -100);
    }

    /** "The place (from 0) of the first byte": of two faults. */
    private static void firstFaultCounts() {
        SurfaceSums x = new SurfaceSums();
        Due.is("13 letter, circles", Due.told(x, 0, "o?m"), -101);
        Due.is("13 circles, letter", Due.told(x, 0, "om?"), -101);
        Due.is("13 figure, letter", Due.told(x, 0, "oh1?"), -102);
        Due.is("13 at the end", Due.told(x, 0, "ohwmcocohc?"), -110);
        Due.is("13 on a full tape", Due.told(x, 0, "oc".repeat(30)), -124);
    }

    /** "THE TAPE is empty behind each call that reads it" */
    private static void tapeIsEmptyBehind() {
        SurfaceSums x = new SurfaceSums();
        Due.is("13 read", Due.told(x, 0, "oh"), 2);
        Due.is("13 empty behind", x.count(2), 0);
        Due.is("13 a fault", Due.told(x, 0, "oh?"), -102);
        Due.is("13 empty behind", x.count(2), 0);
        Due.is("12 the first again", x.feed('o'), 1);
        Due.is("13 what was before is gone", x.surface(1), 1);
    }

    /** "NONE: surface (THE TAPE stays)" */
    private static void tapeStays() {
        SurfaceSums x = new SurfaceSums();
        Due.feed(x, "oh");
        for (int surface : new int[] {-1, 4, LOW, HIGH}) {
            Due.is("13 none", x.surface(surface), -1);
            Due.is("13 stays", x.count(2), 2);
        }
        Due.is("13 as it was", x.surface(3), 2);
        Due.letters(x, 3, "oh");
    }

    /** "What is answered so changes nothing ... -100 less a FAULT" */
    private static void faultChangesNoSurface() {
        SurfaceSums x = with("ohw");
        for (String text : new String[] {"o?", "om", "o4", "oh9h9h9", "c"}) {
            Due.is("13 fault of " + text, Due.told(x, 0, text) < -99 ? 1 : 0, 1);
            Due.letters(x, 0, "ohw");
            Due.is("13 circles as they were", x.shape(0, 1), 2);
        }
    }

    /** "Has the circles it needs (pants, exchange two; split, cap, handle, crosscap one) ... not more than 3 behind it" */
    private static void canStand() {
        for (int circles = 0; circles <= 3; circles++) {
            for (int piece = 0; piece < 7; piece++) {
                SurfaceSums x = with(BY_CIRCLES[circles]);
                boolean can = circles >= NEEDS[piece] && circles + ADDS[piece] <= 3;
                String label = LETTERS.charAt(piece) + " on " + circles;
                Due.is("14 " + label, x.piece(0, piece), can ? circles + 1 : -3);
                Due.is("14 circles behind " + label, x.shape(0, 1), can ? circles + ADDS[piece] : circles);
                Due.is("14 pieces behind " + label, x.shape(0, 0), can ? circles + 1 : circles);
            }
            SurfaceSums x = with(BY_CIRCLES[circles]);
            for (int piece : new int[] {-1, 7, LOW, HIGH}) {
                Due.is("14 no such piece", x.piece(0, piece), -1);
            }
        }
    }

    /** "FULL: there are 24 (behind STATE)" */
    private static void fullBehindState() {
        SurfaceSums x = with("oh9h9h4");
        Due.is("14 the 24th", x.piece(0, 5), 24);
        Due.is("14 a 25th", x.piece(0, 5), -4);
        Due.is("14 a 25th that can't stand", x.piece(0, 1), -3);
        Due.is("14 still 24", x.shape(0, 0), 24);
        x = with("o3h9h9h3");
        Due.is("14 a 25th that there is no circle for", x.piece(0, 0), -3);
        Due.is("14 a 25th that takes one away", x.piece(0, 3), -4);
        Due.is("14 still three circles", x.shape(0, 1), 3);
        x.cut(0, 23);
        Due.is("14 the 24th again", x.piece(0, 3), 24);
    }

    /** "SURFACES 0 .. 3" */
    private static void fourSurfaces() {
        SurfaceSums x = new SurfaceSums();
        String[] texts = {"o", "oh", "ohh", "ohhh"};
        for (int s = 0; s < 4; s++) {
            Due.is("13 surface " + s, Due.told(x, s, texts[s]), s + 1);
        }
        for (int s = 0; s < 4; s++) {
            Due.letters(x, s, texts[s]);
            Due.is("14 surface " + s, x.piece(s, 6), s + 2);
        }
        Due.is("14 no surface below", x.piece(-1, 0), -1);
        Due.is("14 no surface above", x.piece(4, 0), -1);
        Due.is("37 all", x.count(1), 14);
    }

    /** "PIECE i of a SURFACE (from 0). NONE." */
    private static void pieceOf() {
        SurfaceSums x = with("oh9h9h4c");
        Due.is("15 the first", x.pieceOf(0, 0), 0);
        Due.is("15 the last", x.pieceOf(0, 23), 3);
        Due.is("15 one behind", x.pieceOf(0, 24), -1);
        Due.is("15 one before", x.pieceOf(0, -1), -1);
        x.cut(0, 1);
        Due.is("15 the only one", x.pieceOf(0, 0), 0);
        Due.is("15 what has gone", x.pieceOf(0, 1), -1);
        x.cut(0, 0);
        Due.is("15 of none", x.pieceOf(0, 0), -1);
    }

    private static void shapeIs(String text, int... due) {
        SurfaceSums x = with(text);
        for (int what = 0; what < 6; what++) {
            Due.is("16 shape of '" + text + "' " + what, x.shape(0, what), due[what]);
        }
        Due.is("16 one below", x.shape(0, -1), -1);
        Due.is("16 one above", x.shape(0, 6), -1);
    }

    /** "Rows of 0 .. 24 PIECES (none at first)": none has no PARTS. */
    private static void noParts() {
        shapeIs("", 0, 0, 0, 0, 0, 100);
        SurfaceSums x = new SurfaceSums();
        Due.is("17 of none", x.part(0, 0, 0), -1);
        Due.is("18 of none", x.rim(0, 0), -1);
        x = with("oc");
        Due.is("18 of no circles", x.rim(0, 0), -1);
        Due.is("17 of no circles", x.part(0, 0, 0), 0);
        x.cut(0, 0);
        Due.is("17 of none any more", x.part(0, 0, 0), -1);
    }

    private static void mostParts() {
        shapeIs("oc".repeat(12), 24, 0, 12, 1, 12, 124);
        SurfaceSums x = with("oc".repeat(12));
        Due.is("17 the last", x.part(0, 11, 1), 102);
        Due.is("17 one behind", x.part(0, 12, 1), -1);
        Due.is("19 with itself", x.match(0, 0), 12);
        shapeIs("oc".repeat(10) + "ooo", 23, 3, 13, 2, 10, 123);
        x = with("oc".repeat(10) + "ooo");
        Due.is("17 the last", x.part(0, 12, 1), 101);
        Due.is("17 one behind", x.part(0, 13, 1), -1);
        Due.is("18 the first circle", x.rim(0, 0), 10);
        Due.is("18 the last circle", x.rim(0, 2), 12);
        // Of 13 discs 12 are made one with the first.
        shapeIs("o" + "om".repeat(11) + "h", 24, 1, 1, 1, 0, 99);
    }

    /** "100 and EULER": the least that 24 pieces have. */
    private static void eulerFarDown() {
        shapeIs("oh9h9h5", 24, 1, 1, 1, 0, 100 + 1 - 46);
        SurfaceSums x = with("oh9h9h5");
        Due.is("17 euler", x.part(0, 0, 1), 55);
        Due.is("17 genus", x.part(0, 0, 3), 23);
        shapeIs("ok9k9k5", 24, 1, 1, 1, 0, 78);
        Due.is("17 genus", with("ok9k9k5").part(0, 0, 3), 2 + 22 - 1);
    }

    /** "Pants make the PARTS of both circles one"; "They are numbered by their first discs." */
    private static void partsMadeOne() {
        // Both circles are of one part already.
        shapeIs("owm", 3, 1, 1, 1, 0, 99);
        shapeIs("oom", 3, 1, 1, 1, 0, 101);
        SurfaceSums x = with("oohxm");
        Due.is("17 euler of the one", x.part(0, 0, 1), 99);
        Due.is("17 no other", x.part(0, 1, 1), -1);
        // The first disc's circle is the last: that of disc 1 is swallowed all the same.
        x = with("ooxmo");
        Due.is("18 first", x.rim(0, 0) * 10 + x.rim(0, 1), 1);
        // Discs 1 and 2 are made one, disc 0 stays before them, disc 3 comes behind them.
        x = with("ooomxo");
        Due.is("18 numbered by first discs", x.rim(0, 0) * 100 + x.rim(0, 1) * 10 + x.rim(0, 2), 102);
        Due.is("16 parts", x.shape(0, 2), 3);
        // Discs 0 and 2 are made one, with disc 1 in between: the first disc of both counts, whichever circle is the last.
        x = with("ooxom");
        Due.is("18 numbered by the first disc", x.rim(0, 0) * 10 + x.rim(0, 1), 10);
        x = with("ooxoxm");
        Due.is("18 numbered by the first disc", x.rim(0, 0) * 10 + x.rim(0, 1), 10);
        // A closed part keeps its number before those that stay open.
        x = with("ocohoc");
        Due.is("17 closed", x.part(0, 0, 1), 102);
        Due.is("17 open", x.part(0, 1, 1), 99);
        Due.is("17 closed", x.part(0, 2, 1), 102);
    }

    /** "They are numbered by their first discs": those behind one that is none any more move up. */
    private static void partsNumberedAgain() {
        SurfaceSums x = with("o2mok2");
        Due.is("17 euler", x.part(0, 0, 1) * 1000 + x.part(0, 1, 1), 101099);
        Due.is("17 one-sided", x.part(0, 0, 2) * 10 + x.part(0, 1, 2), 1);
        Due.is("18 rim", x.rim(0, 0) * 10 + x.rim(0, 1), 1);
        Due.is("17 no third", x.part(0, 2, 0), -1);
        x = with("o2kmoh");
        Due.is("17 euler", x.part(0, 0, 1) * 1000 + x.part(0, 1, 1), 100099);
        Due.is("17 one-sided", x.part(0, 0, 2) * 10 + x.part(0, 1, 2), 10);
        x = with("o3mmcohcokc");
        Due.is("17 euler", x.part(0, 0, 1) * 1000 + x.part(0, 1, 1), 102100);
        Due.is("17 the last", x.part(0, 2, 1) * 10 + x.part(0, 2, 2), 1011);
    }

    /** What was told of another surface, or of a circle that has gone, is not told of this one. */
    private static void partsAskedAgain() {
        // A cap takes the second circle, a split gives another one, of the first part.
        SurfaceSums x = with("oocw");
        Due.is("18 of the split", x.rim(0, 0) * 10 + x.rim(0, 1), 0);
        Due.is("17 rims", x.part(0, 0, 0) * 10 + x.part(0, 1, 0), 20);
        Due.told(x, 1, "oom");
        Due.told(x, 2, "okokok");
        Due.told(x, 3, "ohoo");
        Due.is("16 one of two", x.shape(1, 2), 1);
        Due.is("16 two", x.shape(0, 2), 2);
        Due.is("17 one-sided", x.part(2, 0, 2) + x.part(2, 1, 2) + x.part(2, 2, 2), 3);
        Due.is("17 not one-sided", x.part(3, 0, 2) + x.part(3, 1, 2) + x.part(3, 2, 2), 0);
        Due.is("17 euler", x.part(3, 0, 1) * 1000 + x.part(3, 1, 1), 99101);
        Due.is("19 none", x.match(2, 3), 0);
        Due.is("19 two", x.match(0, 3) + x.match(3, 3), 0 + 3);
    }

    /** "Of an exchange: of none; the circles take their PARTS with them" */
    private static void exchangeIsOfNone() {
        shapeIs("oox", 3, 2, 2, 1, 0, 102);
        shapeIs("oox9", 11, 2, 2, 1, 0, 102);
        SurfaceSums x = with("ooxh");
        Due.is("17 the handle is of the first", x.part(0, 0, 1) * 1000 + x.part(0, 1, 1), 99101);
        Due.is("18 their parts", x.rim(0, 0) * 10 + x.rim(0, 1), 10);
        x = with("ooxxh");
        Due.is("17 the handle is of the second", x.part(0, 0, 1) * 1000 + x.part(0, 1, 1), 101099);
        Due.is("18 their parts", x.rim(0, 0) * 10 + x.rim(0, 1), 1);
        x = with("oooxc");
        Due.is("17 the cap is of the second", x.part(0, 0, 0) * 100 + x.part(0, 1, 0) * 10 + x.part(0, 2, 0), 101);
    }

    /** "In which PART a circle is at the end (from 0, the first one)"; "RIMS: how many circles of it there are" */
    private static void rims() {
        SurfaceSums x = with("oww");
        Due.is("17 three rims", x.part(0, 0, 0), 3);
        Due.is("18 all of one", x.rim(0, 0) + x.rim(0, 1) + x.rim(0, 2), 0);
        Due.is("18 one behind", x.rim(0, 3), -1);
        Due.is("18 one before", x.rim(0, -1), -1);
        x = with("ohc");
        Due.is("17 no rims", x.part(0, 0, 0), 0);
        Due.is("16 without rims", x.shape(0, 4), 1);
        x = with("ow");
        Due.is("16 none without rims", x.shape(0, 4), 0);
        Due.is("18 the last", x.rim(0, 1), 0);
        Due.is("18 one behind", x.rim(0, 2), -1);
    }

    private static void genusIs(String text, int due) {
        Due.is("17 genus of " + text, with(text).part(0, 0, 3), due);
    }

    /** "GENUS: 2 less EULER less RIMS; half of that, if it is not ONE-SIDED." */
    private static void genus() {
        genusIs("o", 0);
        genusIs("oc", 0);
        genusIs("oww", 0);
        genusIs("oh", 1);
        genusIs("owmc", 1);
        genusIs("ohhc", 2);
        genusIs("ok", 1);
        genusIs("okc", 1);
        genusIs("okkc", 2);
        genusIs("ohk", 3);
        genusIs("owmkw", 3);
        // One crosscap in either of two parts that are made one.
        genusIs("okom", 1);
        genusIs("ookm", 1);
        genusIs("oom", 0);
        SurfaceSums x = with("oko");
        Due.is("17 one-sided is one of two", x.part(0, 0, 2) * 10 + x.part(0, 1, 2), 10);
        Due.is("17 one below", x.part(0, 0, -1), -1);
        Due.is("17 one above", x.part(0, 0, 4), -1);
    }

    /** "Alike, if RIMS, EULER, and whether they are ONE-SIDED, are the same"; "Unlike PARTS are classes of alike ones." */
    private static void unlike() {
        Due.is("16 by euler", with("oohx").shape(0, 3), 2);
        // A handle and two crosscaps count the same for EULER.
        Due.is("16 by sides", with("ohokk").shape(0, 3), 2);
        // A cap and a rim less count for EULER what a crosscap more does.
        Due.is("16 by rims", with("okokkc").shape(0, 3), 2);
        Due.is("16 not by order", with("ohoh").shape(0, 3), 1);
        Due.is("16 not by how it is made", with("ohowm").shape(0, 3), 1);
        Due.is("16 alike with another in between", with("ocohcoc").shape(0, 3), 2);
        Due.is("16 all unlike", with("ocohcokc").shape(0, 3), 3);
        // Otherwise in rims alone.
        SurfaceSums x = with("oh");
        Due.told(x, 1, "oww");
        Due.is("19 the same euler", x.part(0, 0, 1) - x.part(1, 0, 1), 0);
        Due.is("19 by rims", x.match(0, 1), 0);
        Due.told(x, 1, "okk");
        Due.is("19 the same euler", x.part(0, 0, 1) - x.part(1, 0, 1), 0);
        Due.is("19 by sides", x.match(0, 1), 0);
        Due.told(x, 1, "o");
        Due.is("19 by euler", x.match(0, 1), 0);
        Due.told(x, 1, "owm");
        Due.is("19 alike", x.match(0, 1), 1);
    }

    /** "Each an alike PART of the other one of its own"; "also of one with itself" */
    private static void matchEachOfItsOwn() {
        SurfaceSums x = with("ococ");
        Due.told(x, 1, "oc");
        Due.told(x, 2, "ohcoc");
        Due.is("19 two of one", x.match(0, 1) * 10 + x.match(1, 0), 11);
        Due.is("19 the second of it", x.match(1, 2) * 10 + x.match(2, 1), 11);
        Due.is("19 with itself", x.match(0, 0) * 10 + x.match(2, 2), 22);
        Due.is("19 none beside it", x.match(0, 2) * 10 + x.match(2, 0), 11);
    }

    private static void matchOfNone() {
        SurfaceSums x = with("oc");
        Due.is("19 with none", x.match(0, 1) * 10 + x.match(1, 0), 0);
        Due.is("19 none with itself", x.match(1, 1), 0);
        Due.is("19 none at all", x.match(2, 3), 0);
        Due.is("19 one below", x.match(-1, 0) + x.match(0, -1), -2);
        Due.is("19 one above", x.match(4, 0) + x.match(0, 4), -2);
    }
}
