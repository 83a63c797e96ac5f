import java.util.NoSuchElementException;

/** One call of the face, by its number, on the class or on the model. */
final class Calls {
    static final String[] NAMES = {"feed", "figure", "cell", "edge", "gluings", "partner", "glue", "choose",
        "undo", "redo", "corner", "lacking", "beyond", "same", "bodyOf", "bodies", "way", "shortest", "round",
        "farthest", "nets", "mark", "count"};
    /** What a call answers that throws NoSuchElementException. */
    static final long THROWN = Long.MIN_VALUE;

    private Calls() { }

    static int number(String name) {
        for (int i = 0; i < NAMES.length; i++) {
            if (NAMES[i].equals(name)) {
                return i;
            }
        }
        throw new IllegalArgumentException(name);
    }

    private static long as(boolean answer) {
        return answer ? 1 : 0;
    }

    static long on(GluedPaper p, int call, long... a) {
        int[] i = ints(a);
        try {
            switch (NAMES[call]) {
                case "feed": return p.feed(a[0], a[1], a[2]);
                case "figure": return p.figure();
                case "cell": return p.cell(i[0], i[1]);
                case "edge": return p.edge(i[0], i[1]);
                case "gluings": return p.gluings();
                case "partner": return p.partner(i[0], i[1]);
                case "glue": return p.glue(i[0], i[1]);
                case "choose": return as(p.choose(i[0]));
                case "undo": return as(p.undo());
                case "redo": return as(p.redo());
                case "corner": return p.corner(i[0], i[1]);
                case "lacking": return p.lacking(i[0]);
                case "beyond": return p.beyond(i[0], i[1], i[2]);
                case "same": return p.same(i[0], i[1]);
                case "bodyOf": return p.bodyOf(i[0]);
                case "bodies": return p.bodies();
                case "way": return p.way(i[0], i[1], i[2], i[3]);
                case "shortest": return p.shortest(i[0], i[1], i[2]);
                case "round": return p.round(i[0], i[1]);
                case "farthest": return p.farthest(i[0]);
                case "nets": return p.nets(i[0]);
                case "mark": return as(p.mark(i[0], i[1] != 0));
                default: return p.count(i[0]);
            }
        } catch (NoSuchElementException none) {
            if (!NAMES[call].equals("shortest") && !NAMES[call].equals("round")) {
                throw none;
            }
            return THROWN;
        }
    }

    static long on(PaperModel p, int call, long... a) {
        int[] i = ints(a);
        try {
            switch (NAMES[call]) {
                case "feed": return p.feed(a[0], a[1], a[2]);
                case "figure": return p.figure();
                case "cell": return p.cell(i[0], i[1]);
                case "edge": return p.edge(i[0], i[1]);
                case "gluings": return p.gluings();
                case "partner": return p.partner(i[0], i[1]);
                case "glue": return p.glue(i[0], i[1]);
                case "choose": return as(p.choose(i[0]));
                case "undo": return as(p.undo());
                case "redo": return as(p.redo());
                case "corner": return p.corner(i[0], i[1]);
                case "lacking": return p.lacking(i[0]);
                case "beyond": return p.beyond(i[0], i[1], i[2]);
                case "same": return p.same(i[0], i[1]);
                case "bodyOf": return p.bodyOf(i[0]);
                case "bodies": return p.bodies();
                case "way": return p.way(i[0], i[1], i[2], i[3]);
                case "shortest": return p.shortest(i[0], i[1], i[2]);
                case "round": return p.round(i[0], i[1]);
                case "farthest": return p.farthest(i[0]);
                case "nets": return p.nets(i[0]);
                case "mark": return as(p.mark(i[0], i[1] != 0));
                default: return p.count(i[0]);
            }
        } catch (NoSuchElementException none) {
            return THROWN;
        }
    }

    /** Four arguments at least, so that any call has enough. */
    private static int[] ints(long[] a) {
        int[] all = new int[Math.max(4, a.length)];
        for (int k = 0; k < a.length; k++) {
            all[k] = (int) a[k];
        }
        return all;
    }

    /** The signs of a text from a place on, eight to a long, as feed takes them. */
    static long packed(String text, int from) {
        long bytes = 0;
        for (int k = 0; k < 8; k++) {
            bytes = bytes << 8 | (from + k < text.length() ? text.charAt(from + k) & 255 : 0);
        }
        return bytes;
    }
}
