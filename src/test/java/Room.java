/** Objects in three states, made anew by each call, for tests of what is refused and of what is asked. */
final class Room {
    static final String[] NAMES = {"bare", "some", "full"};
    static final int BARE = 0, SOME = 1, FULL = 2;
    /** By room: how many algebras there are. */
    static final int[] ALGEBRAS = {0, 2, 4};

    private Room() {
    }

    static SurfaceSums of(int room) {
        return room == BARE ? new SurfaceSums() : room == SOME ? some() : full();
    }

    /** Some of each thing, with room for more, and an image of what was before the last changes. */
    static SurfaceSums some() {
        SurfaceSums x = new SurfaceSums();
        x.algebra(1, 2, 3);
        x.algebra(3, 3, 4);
        Due.told(x, 0, "ohw");
        Due.told(x, 1, "okc");
        Due.told(x, 3, "o3");
        x.plan(0, 0);
        x.plan(1, 2);
        x.plan(2, 1);
        x.image();
        x.becomes(0, 5);
        Due.told(x, 1, "ow2m2kc");
        Due.told(x, 2, "oc");
        x.plan(2, 2);
        x.plan(0, 5);
        x.list(0, 2);
        x.put(0, 0, 7);
        x.put(0, 1, -8);
        x.list(2, 0);
        x.write(1);
        Due.feed(x, "oh2");
        return x;
    }

    /** All that can be full is: algebras, the tape, the plan, lists, surfaces 0 .. 2 with 1, 0, 3 circles. */
    static SurfaceSums full() {
        SurfaceSums x = new SurfaceSums();
        x.algebra(0, 6, 9);
        x.algebra(2, 6, 0);
        x.algebra(3, 2, 3);
        x.algebra(4, 2, 1);
        Due.told(x, 0, "oh9h9h5");
        Due.told(x, 1, "oh9h9h4c");
        Due.told(x, 2, "o3h9h9h3");
        Due.told(x, 3, "oc");
        x.write(0);
        x.image();
        for (int i = 0; i < 8; i++) {
            x.plan(1 + i % 2, 3);
        }
        for (int list = 0; list < 4; list++) {
            x.list(list, 12);
            x.put(list, 11, list + 1);
        }
        for (int i = 0; i < 60; i++) {
            x.feed(i == 30 ? '?' : 'o');
        }
        return x;
    }
}
