import java.util.ArrayList;
import java.util.List;
import java.util.NoSuchElementException;

/** Sentences of the document that name a boundary case, each with a test of its own, and the means for these. */
abstract class Sentences {
    static final int NONE = GluedPaper.NONE;
    static final int MIN = Integer.MIN_VALUE;
    static final int MAX = Integer.MAX_VALUE;
    static final String CROSS = "rect 1 0 1 4;cell 0 2;cell 2 2;";
    /** Eight squares about a hole but for one, so that the two ends touch at a corner. */
    static final String OPEN_RING = "rect 0 0 3 3;less 1 1;less 2 2;";

    interface Check {
        void go();
    }

    /** What the document says, in its own words, and its test by a short name. */
    record Sentence(String name, String words, Check check) { }

    final List<Sentence> all = new ArrayList<>();
    private Sentence now;
    private int right;
    private int wrong;

    /** Runs the test of one sentence: how many answers are wrong (-1: it has asked nothing). */
    int run(Sentence sentence) {
        now = sentence;
        right = 0;
        wrong = 0;
        try {
            sentence.check.go();
        } catch (RuntimeException thrown) {
            wrong++;
            System.out.println(sentence.name + ": a call threw " + thrown);
        }
        return right + wrong == 0 ? -1 : wrong;
    }

    void say(String name, String words, Check check) {
        all.add(new Sentence(name, words, check));
    }

    void is(String what, long got, long due) {
        if (got == due) {
            right++;
        } else {
            wrong++;
            System.out.println(now.name + " (" + now.words + "): " + what + " is " + got + ", due is " + due);
        }
    }

    void is(String what, String got, String due) {
        is(what + " [" + got + "], due [" + due + "]", got.equals(due) ? 1 : 0, 1);
    }

    void yes(String what, boolean got) {
        is(what, got ? 1 : 0, 1);
    }

    void no(String what, boolean got) {
        is(what, got ? 1 : 0, 0);
    }

    /** That a call throws NoSuchElementException and nothing else. */
    void throwsNone(String what, Check call) {
        int thrown = 0;
        try {
            call.go();
        } catch (NoSuchElementException none) {
            thrown = none.getClass() == NoSuchElementException.class ? 1 : 2;
        }
        is(what + " throws", thrown, 1);
    }

    static int put(GluedPaper paper, String text) {
        int signs = paper.count(6);
        for (int i = 0; i < text.length(); i += 24) {
            signs = paper.feed(Calls.packed(text, i), Calls.packed(text, i + 8), Calls.packed(text, i + 16));
        }
        return signs;
    }

    static int read(GluedPaper paper, String text) {
        put(paper, text);
        return paper.figure();
    }

    GluedPaper of(String text) {
        GluedPaper paper = new GluedPaper();
        is("figure() of " + text, read(paper, text), 0);
        return paper;
    }

    /** The body that a gluing of a figure gives. */
    GluedPaper body(String text, int gluing) {
        GluedPaper paper = of(text);
        yes("gluing " + gluing + " of " + text, paper.choose(gluing));
        return paper;
    }

    /** The cross folded to a cube: 0, 1 the stem, 2 3 4 the row with the arms, 5 the top. */
    GluedPaper cube() {
        GluedPaper paper = of(CROSS);
        for (int i = 0; i < paper.gluings(); i++) {
            paper.choose(i);
            if (paper.lacking(1) == 8) {
                return paper;
            }
        }
        is("a cube among the gluings of the cross", 0, 1);
        return paper;
    }

    /** The kind at the place where the sign ^ stands in front of the token. */
    void fault(String text, int kind) {
        int place = text.indexOf('^');
        fault(text.substring(0, place) + text.substring(place + 1), kind, place);
    }

    void fault(String text, int kind, int place) {
        is("the fault of " + text.replace('\n', '/'), read(new GluedPaper(), text), kind + 16L * place);
    }

    /** The squares of a text's figure in the order of the CELLS, x,y each; or its fault. */
    static String squares(String text) {
        GluedPaper paper = new GluedPaper();
        int fault = read(paper, text);
        return fault == 0 ? squares(paper) : "fault " + (fault & 15) + " at " + (fault >> 4);
    }

    static String squares(GluedPaper paper) {
        StringBuilder told = new StringBuilder();
        for (int i = 0; i < paper.count(0); i++) {
            told.append(i == 0 ? "" : " ").append(paper.cell(i, 0)).append(',').append(paper.cell(i, 1));
        }
        return told.toString();
    }

    void good(String text, String squares) {
        is(text.replace('\n', '/'), squares(text), squares);
    }

    /** The RIM: of each EDGE its CELL and the letter of its SIDE. */
    static String rim(GluedPaper paper) {
        StringBuilder told = new StringBuilder();
        for (int i = 0; i < paper.count(1); i++) {
            told.append(i == 0 ? "" : " ").append(paper.edge(i, 0)).append("SENW".charAt(paper.edge(i, 1)));
        }
        return told.toString();
    }

    /** What of each EDGE, or of each CORNER, one behind the other. */
    static String edges(GluedPaper paper, int what) {
        StringBuilder told = new StringBuilder();
        for (int i = 0; i < paper.count(1); i++) {
            told.append(i == 0 ? "" : " ").append(paper.edge(i, what));
        }
        return told.toString();
    }

    static String corners(GluedPaper paper, int what) {
        StringBuilder told = new StringBuilder();
        for (int i = 0; i < paper.count(1); i++) {
            told.append(i == 0 ? "" : " ").append(paper.corner(i, what));
        }
        return told.toString();
    }

    static String partners(GluedPaper paper, int gluing) {
        StringBuilder told = new StringBuilder();
        for (int i = 0; i < paper.count(1); i++) {
            told.append(i == 0 ? "" : " ").append(paper.partner(gluing, i));
        }
        return told.toString();
    }

    static String times(int many, String text) {
        return text.repeat(many);
    }
}
