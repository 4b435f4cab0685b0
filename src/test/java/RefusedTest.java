import java.util.Arrays;

/**
 * "NONE (-1) no such number; BAD (-2) a number is not as told; STATE (-3) as told; FULL (-4); NOT (-5) as told; the first
 * that a call's words name. What is answered so changes nothing": each call that is refused, by each argument one too
 * small, one too large, and as far off as an int can be, in a bare room, in one with some things and in a full one.
 */
public final class RefusedTest {
    private static final int NONE = -1, BAD = -2, STATE = -3, FULL = -4, NOT = -5;
    private static final int NOTHING = -11, BEYOND = -13, BELOW = -14;
    private static final long NO = Long.MIN_VALUE;
    private static final int LOW = Integer.MIN_VALUE, HIGH = Integer.MAX_VALUE;
    private static final int BARE = Room.BARE, SOME = Room.SOME, FULL_ROOM = Room.FULL;

    private interface Call {
        long of(SurfaceSums x);
    }

    private interface CallBy {
        long of(SurfaceSums x, int v);
    }

    private static final String[] SEEN = new String[Room.NAMES.length];

    public static void main(String[] args) {
        for (int room = 0; room < SEEN.length; room++) {
            SEEN[room] = Seen.of(Room.of(room));
        }
        roomsAreAsMeant();
        inEveryRoom();
        algebras();
        elements();
        surfaces();
        sums();
        gluing();
        plans();
        lists();
        first();
        Due.end();
    }

    /** The numbers around low .. high: one too small, one too large, the least and the greatest int. */
    private static int[] out(int low, int high) {
        return new int[] {LOW, low - 1, high + 1, HIGH};
    }

    private static void refused(String call, int room, long due, Call refused) {
        SurfaceSums x = Room.of(room);
        String label = call + " in the " + Room.NAMES[room] + " room";
        Due.is(label, refused.of(x), due);
        Due.is(label + ", asked again", refused.of(x), due);
        String seen = Seen.of(x);
        Due.is(label + " changes nothing: " + SEEN[room] + " became " + seen, seen.equals(SEEN[room]) ? 1 : 0, 1);
    }

    private static void by(String call, int room, long due, int[] wrong, CallBy refused) {
        for (int v : wrong) {
            refused(call + " " + v, room, due, x -> refused.of(x, v));
        }
    }

    /** What the tests below lean on: a test in a room that is not as it is meant would test nothing. */
    private static void roomsAreAsMeant() {
        int[][] counts = {{0, 0, 0, 0, 0}, {2, 15, 3, 7, 5}, {4, 74, 60, 24, 8}};
        for (int room = 0; room < 3; room++) {
            for (int what = 0; what < 5; what++) {
                Due.is("the " + Room.NAMES[room] + " room: count " + what, Room.of(room).count(what), counts[room][what]);
            }
        }
        for (int room = 0; room < 3; room++) {
            Due.is("seen twice is the same", Seen.of(Room.of(room)).equals(SEEN[room]) ? 1 : 0, 1);
        }
    }

    private static void inEveryRoom() {
        for (int room = BARE; room <= FULL_ROOM; room++) {
            by("2 kind", room, NONE, out(0, 4), (x, v) -> x.algebra(v, 1, 0));
            for (int kind = 0; kind < 5; kind++) {
                int k = kind;
                by("2 kind " + k + " size", room, BAD, out(1, k == 4 ? 2 : 6), (x, v) -> x.algebra(k, v, 0));
                by("2 kind " + k + " figure", room, BAD, out(0, 9), (x, v) -> x.algebra(k, 1, v));
            }
            by("12 letter", room, BAD, out(1, 127), SurfaceSums::feed);
            by("26 n", room, NO, out(1, 24), (x, v) -> x.odds(v, 1, 1, 0));
            by("26 m", room, NO, out(1, 30), (x, v) -> x.odds(1, 1, v, 0));
            by("26 part", room, NO, out(0, 1), (x, v) -> x.odds(1, 1, 1, v));
            by("27 what", room, NONE, out(-1, 2), (x, v) -> x.plan(v, 1));
            by("27 piece", room, BAD, out(0, 6), (x, v) -> x.plan(0, v));
            by("27 pieces", room, BAD, out(1, 9), (x, v) -> x.plan(1, v));
            by("27 surface", room, BAD, out(0, 3), (x, v) -> x.plan(2, v));
            by("32 list", room, NONE, out(0, 3), (x, v) -> x.list(v, 1));
            by("32 n above", room, BAD, new int[] {13, HIGH}, (x, v) -> x.list(0, v));
            by("32 n below", room, BELOW, new int[] {-1, LOW}, (x, v) -> x.list(0, v));
            by("33 list", room, NONE, out(0, 3), (x, v) -> x.put(v, 0, 1));
            by("34 list", room, NO, out(0, 3), (x, v) -> x.get(v, 0));
            by("37 what", room, BAD, out(0, 4), SurfaceSums::count);
            everySurface(room);
            everyAlgebra(room);
        }
    }

    /** "SURFACES 0 .. 3": every call that takes one. */
    private static void everySurface(int room) {
        int[] wrong = out(0, 3);
        by("13 surface", room, NONE, wrong, SurfaceSums::surface);
        by("14 surface", room, NONE, wrong, (x, v) -> x.piece(v, 0));
        by("15 surface", room, NONE, wrong, (x, v) -> x.pieceOf(v, 0));
        by("16 surface", room, NONE, wrong, (x, v) -> x.shape(v, 0));
        by("17 surface", room, NONE, wrong, (x, v) -> x.part(v, 0, 0));
        by("18 surface", room, NONE, wrong, (x, v) -> x.rim(v, 0));
        by("19 one", room, NONE, wrong, (x, v) -> x.match(v, 0));
        by("19 other", room, NONE, wrong, (x, v) -> x.match(0, v));
        by("20 surface", room, NONE, wrong, (x, v) -> x.sum(v, 0, 0));
        by("21 surface", room, NONE, wrong, (x, v) -> x.total(v, 0, 0));
        by("22 one", room, NONE, wrong, (x, v) -> x.alike(v, 0, 0));
        by("22 other", room, NONE, wrong, (x, v) -> x.alike(0, v, 0));
        by("23 one", room, NONE, wrong, (x, v) -> x.glue(v, 0));
        by("23 other", room, NONE, wrong, (x, v) -> x.glue(0, v));
        by("24 surface", room, NONE, wrong, (x, v) -> x.cut(v, 0));
        by("25 surface", room, NONE, wrong, (x, v) -> x.draws(v, 1, 1));
        by("28 surface", room, NONE, wrong, (x, v) -> x.behind(v, 0));
        by("29 surface", room, NONE, wrong, SurfaceSums::write);
        by("31 surface", room, NONE, wrong, (x, v) -> x.judge(0, v, 0));
    }

    /** "ALGEBRAS 0 .. 3, as they come": every call that takes one, by numbers that have not come yet, too. */
    private static void everyAlgebra(int room) {
        int[] wrong = out(0, Room.ALGEBRAS[room] - 1);
        by("3 algebra", room, NONE, wrong, (x, v) -> x.becomes(v, 1));
        by("4 algebra", room, NONE, wrong, (x, v) -> x.of(v, 0));
        by("5 algebra", room, NONE, wrong, (x, v) -> x.product(v, 0, 0, 0));
        by("6 algebra", room, NONE, wrong, (x, v) -> x.form(v, 0, 0, 0));
        by("7 algebra", room, NONE, wrong, (x, v) -> x.element(v, 0, 0));
        by("8 algebra", room, NONE, wrong, (x, v) -> x.split(v, 0, 0, 0));
        by("9 algebra", room, NONE, wrong, (x, v) -> x.closed(v, 0, 0));
        by("10 algebra", room, NONE, wrong, (x, v) -> x.handles(v, 0, 0));
        by("11 algebra", room, NONE, wrong, (x, v) -> x.were(v, 0, 0, 0));
        by("20 algebra", room, NONE, wrong, (x, v) -> x.sum(0, v, 0));
        by("21 algebra", room, NONE, wrong, (x, v) -> x.total(0, v, 0));
        by("22 algebra", room, NONE, wrong, (x, v) -> x.alike(0, 0, v));
        by("31 algebra", room, NONE, wrong, (x, v) -> x.judge(0, 0, v));
        by("28 what", room, NONE, new int[] {LOW, -1, 3, 4, 9, 10 + Room.ALGEBRAS[room], 14, HIGH},
                (x, v) -> x.behind(0, v));
    }

    private static void algebras() {
        for (int room = SOME; room <= FULL_ROOM; room++) {
            by("3 v", room, BAD, out(0, 9), (x, v) -> x.becomes(0, v));
            by("4 what", room, NONE, out(0, 3), (x, v) -> x.of(1, v));
            by("9 h", room, BAD, out(0, 20), (x, v) -> x.closed(0, v, 0));
            by("9 c", room, BAD, out(0, 20), (x, v) -> x.closed(0, 0, v));
            by("10 c", room, BAD, out(0, 20), (x, v) -> x.handles(0, v, 0));
            by("10 v", room, NOT, out(0, 9972), (x, v) -> x.handles(0, 0, v));
            by("11 h", room, BAD, out(0, 20), (x, v) -> x.were(0, v, 0, 0));
            by("11 c", room, BAD, out(0, 20), (x, v) -> x.were(0, 0, v, 0));
            by("11 v", room, 0, out(0, 9972), (x, v) -> x.were(0, 0, 0, v));
        }
        for (int kind = 0; kind < 5; kind++) {
            int k = kind;
            refused("2 a fifth of kind " + k, FULL_ROOM, FULL, x -> x.algebra(k, 1, 0));
        }
    }

    /** By room and algebra: how many elements it has. */
    private static final int[][] ELEMENTS = {{}, {2, 3}, {6, 6, 2, 4}};

    private static void elements() {
        for (int room = SOME; room <= FULL_ROOM; room++) {
            for (int algebra = 0; algebra < ELEMENTS[room].length; algebra++) {
                int a = algebra;
                int[] wrong = out(0, ELEMENTS[room][a] - 1);
                by("5 i", room, NONE, wrong, (x, v) -> x.product(a, v, 0, 0));
                by("5 j", room, NONE, wrong, (x, v) -> x.product(a, 0, v, 0));
                by("5 k", room, NONE, wrong, (x, v) -> x.product(a, 0, 0, v));
                by("6 i", room, NONE, wrong, (x, v) -> x.form(a, v, 0, 0));
                by("6 j", room, NONE, wrong, (x, v) -> x.form(a, 0, v, 1));
                by("6 what", room, NONE, out(0, 1), (x, v) -> x.form(a, 0, 0, v));
                by("7 i", room, NONE, wrong, (x, v) -> x.element(a, v, 0));
                by("7 what", room, NONE, out(0, 3), (x, v) -> x.element(a, 0, v));
                by("8 e", room, NONE, wrong, (x, v) -> x.split(a, v, 0, 0));
                by("8 j", room, NONE, wrong, (x, v) -> x.split(a, 0, v, 0));
                by("8 k", room, NONE, wrong, (x, v) -> x.split(a, 0, 0, v));
            }
        }
    }

    private static void surfaces() {
        by("12 a byte more", FULL_ROOM, FULL, new int[] {1, 'o', 127}, SurfaceSums::feed);
        // THE TAPE of the bare room is empty: what is read of it is, too.
        refused("13 an empty tape", BARE, -100, x -> x.surface(0));
        for (int room = BARE; room <= FULL_ROOM; room++) {
            by("14 piece", room, NONE, out(0, 6), (x, v) -> x.piece(3, v));
            by("16 what", room, NONE, out(0, 5), (x, v) -> x.shape(0, v));
        }
        by("14 on no circles", BARE, STATE, new int[] {1, 2, 3, 4, 5, 6}, (x, v) -> x.piece(3, v));
        by("14 on one circle", FULL_ROOM, STATE, new int[] {1, 4}, (x, v) -> x.piece(0, v));
        by("14 on three circles", SOME, STATE, new int[] {0, 2}, (x, v) -> x.piece(3, v));
        by("14 state before full", FULL_ROOM, STATE, new int[] {0, 2}, (x, v) -> x.piece(2, v));
        by("14 a 25th on one circle", FULL_ROOM, FULL, new int[] {0, 2, 3, 5, 6}, (x, v) -> x.piece(0, v));
        by("14 a 25th on no circle", FULL_ROOM, FULL, new int[] {0}, (x, v) -> x.piece(1, v));
        by("14 a 25th on three circles", FULL_ROOM, FULL, new int[] {1, 3, 4, 5, 6}, (x, v) -> x.piece(2, v));
        by("15 i", BARE, NONE, new int[] {LOW, -1, 0, 1, HIGH}, (x, v) -> x.pieceOf(0, v));
        by("15 i", SOME, NONE, out(0, 2), (x, v) -> x.pieceOf(0, v));
        by("15 i", FULL_ROOM, NONE, out(0, 23), (x, v) -> x.pieceOf(2, v));
        by("17 k", BARE, NONE, new int[] {LOW, -1, 0, 1, HIGH}, (x, v) -> x.part(0, v, 0));
        by("17 k", SOME, NONE, out(0, 2), (x, v) -> x.part(3, v, 0));
        by("17 k", FULL_ROOM, NONE, out(0, 0), (x, v) -> x.part(0, v, 0));
        by("17 what", SOME, NONE, out(0, 3), (x, v) -> x.part(3, 2, v));
        by("18 circle", BARE, NONE, new int[] {LOW, -1, 0, 1, HIGH}, (x, v) -> x.rim(0, v));
        by("18 circle", SOME, NONE, new int[] {LOW, -1, 0, 1, HIGH}, (x, v) -> x.rim(1, v));
        by("18 circle", SOME, NONE, out(0, 1), (x, v) -> x.rim(0, v));
        by("18 circle", FULL_ROOM, NONE, out(0, 2), (x, v) -> x.rim(2, v));
    }

    private static void sums() {
        by("20 place of no circles", SOME, NONE, out(0, 0), (x, v) -> x.sum(1, 0, v));
        by("20 place of two circles", SOME, NONE, out(0, 3), (x, v) -> x.sum(0, 0, v));
        by("20 place of two circles", SOME, NONE, out(0, 8), (x, v) -> x.sum(0, 1, v));
        by("20 place of three circles", SOME, NONE, out(0, 26), (x, v) -> x.sum(3, 1, v));
        by("20 place of one circle", FULL_ROOM, NONE, out(0, 5), (x, v) -> x.sum(0, 1, v));
        by("20 place of three circles", FULL_ROOM, NONE, out(0, 215), (x, v) -> x.sum(2, 0, v));
        by("21 what", SOME, NONE, out(0, 3), (x, v) -> x.total(0, 0, v));
        // More than one handle, graded: nothing is left.
        refused("21 first of none", FULL_ROOM, NOT, x -> x.total(0, 3, 2));
    }

    private static void gluing() {
        refused("23 five circles", SOME, STATE, x -> x.glue(3, 0));
        refused("23 four circles, itself", SOME, STATE, x -> x.glue(0, 0));
        refused("23 four circles, three at the end", SOME, STATE, x -> x.glue(3, 2));
        refused("23 five circles in between, none at the end", SOME, STATE, x -> x.glue(0, 1));
        refused("23 state before full", FULL_ROOM, STATE, x -> x.glue(2, 3));
        refused("23 more than 24", FULL_ROOM, FULL, x -> x.glue(0, 3));
        refused("23 more than 24, itself", FULL_ROOM, FULL, x -> x.glue(1, 1));
        by("24 k", BARE, BAD, out(0, 0), (x, v) -> x.cut(0, v));
        by("24 k", SOME, BAD, out(0, 3), (x, v) -> x.cut(0, v));
        by("24 k", FULL_ROOM, BAD, out(0, 24), (x, v) -> x.cut(0, v));
        for (int room = BARE; room <= FULL_ROOM; room++) {
            by("25 n", room, BAD, out(1, 24), (x, v) -> x.draws(3, v, 1));
        }
    }

    private static void plans() {
        by("27 a ninth row", FULL_ROOM, FULL, new int[] {0, 1, 2}, (x, v) -> x.plan(v, 3));
        by("30 i", BARE, NONE, new int[] {LOW, -1, 0, 1, HIGH}, SurfaceSums::paper);
        by("30 i", SOME, NONE, out(0, 6), SurfaceSums::paper);
        by("30 i", FULL_ROOM, NONE, out(0, 23), SurfaceSums::paper);
    }

    private static void lists() {
        for (int room = SOME; room <= FULL_ROOM; room++) {
            by("31 list", room, NONE, out(0, 3), (x, v) -> x.judge(v, 0, 0));
        }
        by("31 nothing", SOME, NOTHING, new int[] {1, 3}, (x, v) -> x.judge(v, 0, 0));
        by("33 nothing", BARE, NOTHING, new int[] {0, 1, 2, 3}, (x, v) -> x.put(v, 0, 5));
        by("33 nothing", SOME, NOTHING, new int[] {1, 3}, (x, v) -> x.put(v, 0, 5));
        by("33 beyond", SOME, BEYOND, out(0, 1), (x, v) -> x.put(0, v, 5));
        by("33 beyond, of no places", SOME, BEYOND, new int[] {LOW, -1, 0, HIGH}, (x, v) -> x.put(2, v, 5));
        by("33 beyond", FULL_ROOM, BEYOND, out(0, 11), (x, v) -> x.put(3, v, 5));
        by("34 nothing", BARE, NO, new int[] {0, 1, 2, 3}, (x, v) -> x.get(v, 0));
        by("34 no such place", SOME, NO, out(0, 1), (x, v) -> x.get(0, v));
        by("34 no such place", SOME, NO, new int[] {LOW, -1, 0, HIGH}, (x, v) -> x.get(2, v));
        by("34 no such place", FULL_ROOM, NO, out(0, 11), (x, v) -> x.get(3, v));
        refused("36 no image", BARE, STATE, SurfaceSums::undo);
    }

    /** "The first that a call's words name": two or more are wrong at once. */
    private static void first() {
        refused("2 kind, size, figure, full", FULL_ROOM, NONE, x -> x.algebra(5, 0, 10));
        refused("2 kind, full", FULL_ROOM, NONE, x -> x.algebra(-1, 1, 0));
        refused("2 size, full", FULL_ROOM, BAD, x -> x.algebra(4, 3, 0));
        refused("2 figure, full", FULL_ROOM, BAD, x -> x.algebra(0, 1, 10));
        refused("3 algebra, v", SOME, NONE, x -> x.becomes(2, 10));
        refused("9 algebra, h, c", SOME, NONE, x -> x.closed(2, 21, -1));
        refused("10 algebra, c, none", SOME, NONE, x -> x.handles(2, 21, -1));
        refused("10 c, none", SOME, BAD, x -> x.handles(0, 21, -1));
        refused("11 algebra, h", SOME, NONE, x -> x.were(-1, 21, 0, 0));
        refused("12 letter, full", FULL_ROOM, BAD, x -> x.feed(128));
        refused("13 surface, fault", FULL_ROOM, NONE, x -> x.surface(4));
        refused("14 surface, state", BARE, NONE, x -> x.piece(4, 1));
        refused("14 piece, full", FULL_ROOM, NONE, x -> x.piece(0, 7));
        refused("14 surface, piece", BARE, NONE, x -> x.piece(-1, -1));
        refused("21 what, not", FULL_ROOM, NONE, x -> x.total(0, 3, 4));
        refused("23 one, other", SOME, NONE, x -> x.glue(4, -1));
        refused("24 surface, k", SOME, NONE, x -> x.cut(4, -1));
        refused("25 surface, n", SOME, NONE, x -> x.draws(4, 25, 0));
        refused("27 what, v, full", FULL_ROOM, NONE, x -> x.plan(3, -1));
        refused("27 v, full", FULL_ROOM, BAD, x -> x.plan(1, 0));
        refused("28 surface, what", SOME, NONE, x -> x.behind(4, 12));
        refused("31 list, surface, algebra", BARE, NONE, x -> x.judge(4, 4, 0));
        refused("31 surface, nothing", SOME, NONE, x -> x.judge(1, 4, 0));
        refused("31 algebra, nothing", SOME, NONE, x -> x.judge(1, 0, 2));
        refused("32 list, n above", SOME, NONE, x -> x.list(4, 13));
        refused("32 list, n below", SOME, NONE, x -> x.list(-1, -1));
        refused("33 list, nothing", SOME, NONE, x -> x.put(4, -1, 0));
        refused("33 nothing, beyond", SOME, NOTHING, x -> x.put(1, -1, 0));
        Due.is("seen tells the rooms apart", Arrays.stream(SEEN).distinct().count(), 3);
    }
}
