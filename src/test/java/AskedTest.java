/**
 * "What is asked changes nothing but THE PAPER": each call that asks, with all that it can be asked, in a bare room, in
 * one with some things and in a full one; asked twice, it answers the same.
 */
public final class AskedTest {
    private interface Call {
        long of(SurfaceSums x);
    }

    private static int room;
    private static String seen;

    public static void main(String[] args) {
        for (room = 0; room < Room.NAMES.length; room++) {
            seen = Seen.of(Room.of(room));
            algebras();
            surfaces();
            sums();
            others();
            write();
        }
        Due.end();
    }

    private static void asked(String call, Call ask) {
        SurfaceSums x = Room.of(room);
        String label = call + " in the " + Room.NAMES[room] + " room";
        long first = ask.of(x);
        Due.is(label + ", asked again", ask.of(x), first);
        String after = Seen.of(x);
        Due.is(label + " changes nothing: " + seen + " became " + after, after.equals(seen) ? 1 : 0, 1);
    }

    private static void algebras() {
        for (int algebra = 0; algebra < Room.ALGEBRAS[room]; algebra++) {
            int a = algebra;
            for (int what = 0; what < 4; what++) {
                int w = what;
                asked("4 of", x -> x.of(a, w));
                asked("6 form", x -> x.form(a, 1, 1, w % 2));
                asked("7 element", x -> x.element(a, 1, w));
            }
            asked("5 product", x -> x.product(a, 1, 1, 0));
            asked("8 split", x -> x.split(a, 1, 1, 0));
            asked("9 closed", x -> x.closed(a, 20, 20));
            asked("10 handles", x -> x.handles(a, 1, 9));
            // Figures as they might be: that of the algebra stays.
            asked("11 were", x -> x.were(a, 2, 1, 9));
        }
    }

    private static void surfaces() {
        for (int surface = 0; surface < 4; surface++) {
            int s = surface;
            for (int what = 0; what < 6; what++) {
                int w = what;
                asked("16 shape", x -> x.shape(s, w));
                asked("17 part", x -> x.part(s, 0, w));
            }
            asked("15 pieceOf", x -> x.pieceOf(s, 0));
            asked("18 rim", x -> x.rim(s, 0));
            for (int other = 0; other < 4; other++) {
                int t = other;
                asked("19 match", x -> x.match(s, t));
            }
        }
    }

    private static void sums() {
        for (int surface = 0; surface < 4; surface++) {
            int s = surface;
            for (int algebra = 0; algebra < Room.ALGEBRAS[room]; algebra++) {
                int a = algebra;
                asked("20 sum", x -> x.sum(s, a, 0));
                for (int what = 0; what < 4; what++) {
                    int w = what;
                    asked("21 total", x -> x.total(s, a, w));
                    asked("22 alike", x -> x.alike(s, w, a));
                    asked("31 judge", x -> x.judge(w, s, a));
                }
            }
        }
    }

    private static void others() {
        asked("26 odds", x -> x.odds(24, 5, 30, 0));
        asked("26 odds", x -> x.odds(1, 5, 1, 1));
        for (int number = 0; number < 14; number++) {
            int n = number;
            asked("28 behind", x -> x.behind(0, n) + x.behind(2, n) + x.behind(3, n));
            asked("30 paper", x -> x.paper(n));
            asked("34 get", x -> x.get(0, n));
            asked("37 count", x -> x.count(n));
        }
    }

    /** A surface written changes THE PAPER, and that alone. */
    private static void write() {
        for (int s = 0; s < 4; s++) {
            SurfaceSums x = Room.of(room);
            String letters = Due.letters(x, s);
            Due.is("29 write", x.write(s), letters.length());
            String due = seen.replaceAll("paper \\w* list", "paper " + letters + " list");
            due = due.replaceAll("^(\\d+ \\d+ \\d+) \\d+", "$1 " + letters.length());
            Due.is("29 write changes the paper alone in the " + Room.NAMES[room] + " room",
                    Seen.of(x).equals(due) ? 1 : 0, 1);
        }
    }
}
