/** Promises 23 to 26: gluing, cutting, draws. Answers worked out by hand from the document. */
public final class GlueTest {
    private static final int LOW = Integer.MIN_VALUE, HIGH = Integer.MAX_VALUE;

    public static void main(String[] args) {
        glue();
        cut();
        draws();
        odds();
        Due.end();
    }

    private static void glue() {
        SurfaceSums x = new SurfaceSums();
        Due.told(x, 0, "ow");
        Due.told(x, 1, "ohc");
        Due.told(x, 2, "owc");
        Due.is("23 glue", x.glue(0, 1), 5);
        Due.letters(x, 0, "owohc");
        Due.letters(x, 1, "ohc");
        Due.is("23 state: four circles in between", x.glue(0, 2), -3);
        Due.letters(x, 0, "owohc");
        Due.is("23 state: itself", x.glue(0, 0), -3);
        Due.is("23 none to glue", x.glue(0, 3), 5);
        Due.is("23 to none", x.glue(3, 1), 3);
        Due.is("23 itself", x.glue(3, 3), 6);
        Due.letters(x, 3, "ohcohc");
        Due.is("23 itself", x.glue(3, 3), 12);
        Due.is("23 itself", x.glue(3, 3), 24);
        Due.is("23 full", x.glue(3, 1), -4);
        Due.is("23 full: itself", x.glue(3, 3), -4);
        Due.is("23 none at all is not too many", x.glue(3, 3) + x.count(1), -4 + 24 + 5 + 3 + 3);
        x.cut(3, 22);
        Due.is("23 one too many", x.glue(3, 1), -4);
        x.cut(3, 21);
        Due.is("23 just enough", x.glue(3, 1), 24);
        Due.told(x, 3, "o3h9h9h3");
        Due.is("23 state before full", x.glue(3, 1), -3);
        Due.told(x, 3, "o3m2o2");
        Due.told(x, 2, "oc");
        Due.is("23 state: three at its end", x.glue(3, 2), -3);
        Due.told(x, 3, "o3");
        Due.told(x, 2, "o");
        x.cut(2, 0);
        Due.is("23 none to glue on three circles", x.glue(3, 2), 3);
        Due.is("23 none", x.glue(4, 0), -1);
        Due.is("23 none", x.glue(0, 4), -1);
        Due.is("23 none", x.glue(-1, 0), -1);
        Due.is("23 none", x.glue(0, -1), -1);
    }

    private static void cut() {
        SurfaceSums x = new SurfaceSums();
        Due.told(x, 1, "o3m2w");
        Due.is("24 bad", x.cut(1, 7), -2);
        Due.is("24 bad", x.cut(1, -1), -2);
        Due.is("24 bad", x.cut(1, LOW), -2);
        Due.is("24 bad", x.cut(1, HIGH), -2);
        Due.is("24 none before bad", x.cut(4, -1), -1);
        Due.is("24 all stay", x.cut(1, 6), 6);
        Due.is("24 cut", x.cut(1, 4), 6);
        Due.letters(x, 1, "ooom");
        Due.is("24 circles", x.shape(1, 1), 2);
        Due.is("24 cut", x.cut(1, 0), 4);
        Due.is("24 circles", x.shape(1, 1), 0);
        Due.is("24 cut", x.cut(1, 0), 0);
        Due.is("24 bad", x.cut(1, 1), -2);
    }

    /** As the document tells it, by hand: letters of what is drawn behind a text. */
    private static String drawn(String text, int n, int seed) {
        StringBuilder pieces = new StringBuilder(text);
        long z = seed;
        for (int i = 0; i < n; i++) {
            z = (int) (z * 1103515245L + 12345L);
            int piece = (int) ((z & 0xFFFFFFFFL) / 65536 % 7);
            int circles = 0;
            for (int k = 0; k < pieces.length(); k++) {
                char c = pieces.charAt(k);
                circles += c == 'o' || c == 'w' ? 1 : c == 'm' || c == 'c' ? -1 : 0;
            }
            int needs = piece == 0 ? 0 : piece == 1 || piece == 4 ? 2 : 1;
            boolean grows = piece == 0 || piece == 2;
            if (circles >= needs && (!grows || circles < 3) && pieces.length() < 24) {
                pieces.append("omwcxhk".charAt(piece));
            }
        }
        return pieces.toString();
    }

    private static void draws() {
        int[] seeds = {0, 1, -1, 5, 6, 12345, LOW, HIGH, -99999};
        for (int seed : seeds) {
            for (int n : new int[] {1, 2, 7, 24}) {
                SurfaceSums x = new SurfaceSums();
                String due = drawn("", n, seed);
                Due.is("25 draws", x.draws(0, n, seed), due.length());
                Due.letters(x, 0, due);
                Due.told(x, 1, "o3");
                due = drawn("ooo", n, seed);
                Due.is("25 draws", x.draws(1, n, seed), due.length());
                Due.letters(x, 1, due);
                due = drawn(due, 24, seed + 1);
                Due.is("25 draws more", x.draws(1, 24, seed + 1), due.length());
                Due.letters(x, 1, due);
            }
        }
        SurfaceSums x = new SurfaceSums();
        Due.is("25 bad", x.draws(0, 0, 1), -2);
        Due.is("25 bad", x.draws(0, 25, 1), -2);
        Due.is("25 bad", x.draws(0, LOW, 1), -2);
        Due.is("25 none", x.draws(4, 0, 1), -1);
        Due.is("25 none", x.draws(-1, 0, 1), -1);
        Due.is("25 nothing drawn", x.count(1), 0);
        Due.told(x, 0, "oh9h9h5");
        Due.is("25 24 already", x.draws(0, 24, 3), 24);
        Due.is("25 circles", x.shape(0, 1), 1);
    }

    private static void odds() {
        int[] seeds = {0, 9, -15, HIGH, LOW, HIGH - 7};
        SurfaceSums x = new SurfaceSums();
        Due.told(x, 0, "o3");
        for (int seed : seeds) {
            for (int n : new int[] {1, 3, 10, 24}) {
                for (int m : new int[] {1, 7, 30}) {
                    int none = 0;
                    for (int i = 0; i < m; i++) {
                        String text = drawn("", n, seed + i);
                        long up = text.chars().filter(c -> c == 'o' || c == 'w').count();
                        long down = text.chars().filter(c -> c == 'm' || c == 'c').count();
                        none += up == down ? 1 : 0;
                    }
                    int d = none == 0 ? m : java.math.BigInteger.valueOf(none)
                            .gcd(java.math.BigInteger.valueOf(m)).intValue();
                    Due.is("26 above", x.odds(n, seed, m, 0), none / d);
                    Due.is("26 below", x.odds(n, seed, m, 1), m / d);
                }
            }
        }
        for (int wrong : new int[] {0, -1, 31, LOW, HIGH}) {
            Due.is("26 m", x.odds(1, 1, wrong, 0), SurfaceSums.NO);
            Due.is("26 n", x.odds(wrong, 1, 1, 0), SurfaceSums.NO);
        }
        Due.is("26 n", x.odds(25, 1, 1, 0), SurfaceSums.NO);
        Due.is("26 part", x.odds(1, 1, 1, 2), SurfaceSums.NO);
        Due.is("26 part", x.odds(1, 1, 1, -1), SurfaceSums.NO);
        Due.is("26 changes nothing", x.count(1), 3);
        oddsOfNone(x);
    }

    /** A seed whose first piece is a disc leaves a circle: 0 by 1. One whose first piece can't stand leaves none. */
    private static void oddsOfNone(SurfaceSums x) {
        int disc = 0;
        while (!drawn("", 1, disc).equals("o")) {
            disc++;
        }
        Due.is("26 0 by 1", x.odds(1, disc, 1, 0) * 10 + x.odds(1, disc, 1, 1), 1);
        int nothing = 0;
        while (!drawn("", 1, nothing).isEmpty()) {
            nothing++;
        }
        Due.is("26 1 by 1", x.odds(1, nothing, 1, 0) * 10 + x.odds(1, nothing, 1, 1), 11);
    }
}
