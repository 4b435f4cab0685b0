/**
 * All that can be told of an object as one text: where it is the same of two objects, nothing told them apart. The object
 * is used up by it, as its tape is read and its image is gone back to.
 */
final class Seen {
    private Seen() {
    }

    static String of(SurfaceSums x) {
        StringBuilder text = new StringBuilder();
        for (int what = 0; what < 5; what++) {
            text.append(x.count(what)).append(' ');
        }
        held(x, text);
        text.append("paper ");
        for (int i = 0; x.paper(i) != -1; i++) {
            text.append((char) x.paper(i));
        }
        for (int list = 0; list < 4; list++) {
            // A list of no places is told from nothing by put().
            text.append(" list ").append(x.put(list, -1, 0));
            for (int i = 0; x.get(list, i) != SurfaceSums.NO; i++) {
                text.append(' ').append(x.get(list, i));
            }
        }
        text.append(" tape ").append(x.surface(0)).append(Due.letters(x, 0));
        text.append(" image ").append(x.undo()).append(' ');
        held(x, text);
        return text.toString();
    }

    /** What an image holds. */
    private static void held(SurfaceSums x, StringBuilder text) {
        for (int a = 0; x.of(a, 0) != -1; a++) {
            text.append("algebra ").append(x.of(a, 0)).append(x.of(a, 1)).append(x.of(a, 2));
            text.append(' ').append(x.element(a, 0, 0)).append(' ').append(x.element(a, 0, 2)).append(' ');
        }
        for (int s = 0; s < 4; s++) {
            text.append("surface ").append(Due.letters(x, s)).append(' ').append(x.shape(s, 1));
            for (int what : new int[] {0, 1, 2, 10}) {
                text.append(' ').append(x.behind(s, what));
            }
            text.append(' ');
        }
    }
}
