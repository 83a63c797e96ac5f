/** Each promise of the document by itself: ordinary inputs, the edges that it names, wrong inputs. */
public final class PromiseTest {
    private static final int NONE = GluedPaper.NONE;
    private static final String CROSS = "rect 1 0 1 4;cell 0 2;cell 2 2;";
    /** Eight squares about a hole but for one, so that the two ends touch at a corner. */
    private static final String OPEN_RING = "rect 0 0 3 3;less 1 1;less 2 2;";

    private static int right = 0;
    private static int wrong = 0;
    private static String promise = "";

    private PromiseTest() { }

    public static void main(String[] args) {
        newObject();
        feed();
        tokens();
        statements();
        expressions();
        namesAndEnds();
        work();
        wholeFigures();
        cell();
        edge();
        gluings();
        partner();
        glue();
        choose();
        undo();
        redo();
        keptActs();
        corner();
        lacking();
        beyond();
        same();
        bodies();
        way();
        shortest();
        round();
        farthest();
        nets();
        mark();
        count();
        System.out.println(right + " answers are right, " + wrong + " are wrong");
        if (wrong > 0) {
            System.exit(1);
        }
    }

    // ---- means

    private static void is(String what, long got, long due) {
        if (got == due) {
            right++;
        } else {
            wrong++;
            System.out.println(promise + ": " + what + " is " + got + ", due is " + due);
        }
    }

    private static void yes(String what, boolean got) {
        is(what, got ? 1 : 0, 1);
    }

    private static void no(String what, boolean got) {
        is(what, got ? 1 : 0, 0);
    }

    private static int put(GluedPaper paper, String text) {
        int signs = paper.count(6);
        for (int i = 0; i < text.length(); i += 24) {
            signs = paper.feed(Calls.packed(text, i), Calls.packed(text, i + 8), Calls.packed(text, i + 16));
        }
        return signs;
    }

    private static int read(GluedPaper paper, String text) {
        put(paper, text);
        return paper.figure();
    }

    private static GluedPaper of(String text) {
        GluedPaper paper = new GluedPaper();
        is("figure() of " + text, read(paper, text), 0);
        return paper;
    }

    private static void fault(String text, int kind, int place) {
        is("the fault of " + text.replace('\n', '/'), read(new GluedPaper(), text), kind + 16 * place);
    }

    /** The kind at the place where the sign ^ stands in front of the token. */
    private static void fault(String text, int kind) {
        int place = text.indexOf('^');
        fault(text.substring(0, place) + text.substring(place + 1), kind, place);
    }

    private static void good(String text, int cells) {
        GluedPaper paper = new GluedPaper();
        is("figure() of " + text.replace('\n', '/'), read(paper, text), 0);
        is("cells of " + text.replace('\n', '/'), paper.count(0), cells);
    }

    private static String times(int many, String text) {
        return text.repeat(many);
    }

    /** The cross folded to a cube; CELLS 0, 1, 3 .. 5 as numbered: 2 3 4 are the arms' row. */
    private static GluedPaper cube() {
        GluedPaper paper = of(CROSS);
        for (int i = 0; i < paper.gluings(); i++) {
            paper.choose(i);
            if (paper.lacking(1) == 8) {
                return paper;
            }
        }
        is("a cube among the gluings of the cross", 0, 1);
        return paper;
    }

    private static long shortest(GluedPaper paper, int from, int to, int what) {
        return Calls.on(paper, Calls.number("shortest"), from, to, what);
    }

    private static long round(GluedPaper paper, int cell, int what) {
        return Calls.on(paper, Calls.number("round"), cell, what);
    }

    // ---- 1 to 3

    private static void newObject() {
        promise = "promise 1";
        GluedPaper paper = new GluedPaper();
        is("NONE", GluedPaper.NONE, -1);
        is("cells", paper.count(0), 1);
        is("edges", paper.count(1), 4);
        for (int what = 2; what <= 6; what++) {
            is("count " + what, paper.count(what), 0);
        }
        is("x", paper.cell(0, 0), 0);
        is("y", paper.cell(0, 1), 0);
        for (int i = 0; i < 4; i++) {
            is("side of edge " + i, paper.edge(i, 1), i);
            is("quarters of corner " + i, paper.edge(i, 2), 1);
            is("mate of edge " + i, paper.edge(i, 3), NONE);
            no("mark " + i, paper.mark(i, true));
        }
        no("undo", paper.undo());
        no("redo", paper.redo());
    }

    private static void feed() {
        promise = "promise 2";
        GluedPaper paper = new GluedPaper();
        is("nothing", paper.feed(0, 0, 0), 0);
        is("left out", paper.feed(0x00010908_0b1f7f80L, 0xff_fe_c0_a0_8a_90_1b_0dL, 0), 0);
        is("taken", paper.feed(0x0a_20_7e_21_00_09_0a_7eL, 0, 0x20L), 7);
        is("a sign above all", paper.feed(0x7e00000000000000L, 0, 0), 8);
        is("count 6", paper.count(6), 8);
        is("the wrong sign's place", paper.figure(), 1 + 16 * 2);
        is("empty behind", paper.count(6), 0);
        is("the order", paper.feed(Calls.packed("cell 3 4", 0), Calls.packed(";cell 3 ", 0), Calls.packed("5;", 0)), 18);
        is("the order", paper.figure(), 0);
        is("x", paper.cell(0, 0), 3);
        is("y", paper.cell(1, 1), 5);
        is("984", put(paper, times(984, " ")), 984);
        is("1,000 and what is beyond", put(paper, times(16, " ") + "cell 0 0"), 1000);
        is("beyond", paper.feed(Calls.packed("!!!!!!!!", 0), -1, 0), 1000);
        is("1,000 blanks", paper.figure(), 8 + 16 * 1000);
        is("behind it", put(paper, "cell 0 0;"), 9);
        is("two ends", read(new GluedPaper(), "cell 0 0" + times(495, "*0") + ";;"), 1 + 16 * 999);
        is("1,000 tokens and the end", read(new GluedPaper(), times(1000, ";")), 1);
        is("a thousand signs of one text", read(new GluedPaper(), "cell 0 0" + times(495, "+0") + "*0"), 1 + 16 * 1000);
        is("a fault takes it too", read(paper, ";"), 1 + 16 * 9);
        is("empty", paper.count(6), 0);
    }

    private static void tokens() {
        promise = "promise 3, tokens";
        good("cell 0 0;", 1);
        good("\n cell\n0  0 \n;\n", 1);
        good("cell 1(2);cell(1)3;cell 1 2+2;", 3);
        good("let abcdefgh 1;cell abcdefgh 1;", 1);
        good("let a 1;cell 1a;cell a 2;cell 2a;cell a3;", 4);
        good("let x2;cell x 0;", 1);
        good("cell 0009 9995-9990;", 1);
        fault("cell ^00000 0;", 1);
        fault("cell ^10000 0;", 1);
        fault("let ^abcdefghi 1;", 1);
        fault("^cellcellcell 0 0;", 1);
        fault("^cells 0 0;", 1);
        fault("^Cell 0 0;", 1);
        fault("cell ^A 0;", 1);
        fault("cell 0 0;^.", 1);
        fault("cell 0^,0;", 1);
        fault("cell 0 1^/1;", 1);
        fault("cell 0 ^:;", 1);
        fault("cell 0 ^`;", 1);
        fault("cell 0 ^{;", 1);
        fault("cell 0 0^=0;", 1);
        fault("cell 0 ^<0;", 1);
        fault("cell ^-1 0;", 1);
    }

    private static void statements() {
        promise = "promise 3, statements";
        fault("^", 8);
        fault("  \n^", 8);
        fault("^;", 1);
        fault("^0", 1);
        fault("^abc 0 0;", 1);
        fault("^(", 1);
        fault("cell^", 1);
        fault("cell 0^", 1);
        fault("cell 0 0^", 1);
        fault("cell 0 0 ^", 1);
        fault("cell 0 0 ^cell 1 0;", 1);
        fault("cell 0 0 ^0;", 1);
        fault("cell 0^;", 1);
        fault("cell ^cell 0;", 1);
        fault("rect 0 0 1^;", 1);
        fault("rect 0 0 1 1 ^1;", 1);
        fault("less 0^;", 1);
        fault("let^;", 1);
        fault("let ^1 1;", 1);
        fault("let a^;", 1);
        fault("let a ^= 1;", 1);
        fault("let a 1 ^1;", 1);
        for (String word : new String[] {"cell", "rect", "less", "let", "each"}) {
            fault("let ^" + word + " 1;", 1);
            fault("each ^" + word + " 0 1 cell 0 0;", 1);
        }
        fault("each^", 1);
        fault("each k 0^", 1);
        fault("each k 0 1^;", 1);
        fault("each k 0 1 ^let a 1;", 1);
        fault("each k 0 1 ^each j 0 1 cell 0 0;", 1);
        fault("each k 0 1 cell 0^;", 1);
        fault("each k 0 1 cell 0 0^", 1);
        good("cell 0 0;rect 0 0 2 1;less 0 0;let a 2;each k 2 3 cell k 0;each k 3 3 less k 0;each k 0 1 rect 1 k 1 1;", 3);
    }

    private static void expressions() {
        promise = "promise 3, expressions";
        good("cell 2+3*4-14 (2+3)*2-9-1;", 1);
        GluedPaper paper = of("let a 7;cell a-2-1 20-a*2-(3-1);cell a-3 a-3-1;");
        is("from left to right, products first", paper.cell(0, 0) * 100 + paper.cell(0, 1), 403);
        is("a name", paper.cell(1, 1), 4);
        good("cell ((((1)))) 0;cell (((2)+(1))-(1)) 0;", 2);
        good("cell (1)+(0) (2)-(2);", 1);
        fault("cell (((((^1))))) 0;", 5);
        fault("cell ((((1+(^2))))) 0;", 5);
        fault("cell (((((^(1)))))) 0;", 5);
        fault("let a 1;cell (((((^a))))) 0;", 5);
        fault("cell (((((^a))))) 0;", 2);
        fault("cell (((((^;", 1);
        fault("cell (((((^let", 1);
        fault("cell (((((^)))))) 0;", 1);
        fault("cell (((((^12345))))) 0;", 1);
        for (String ahead : new String[] {"cell ", "cell 0 ", "rect ", "rect 0 ", "rect 0 0 ", "rect 0 0 1 ", "less 0 ",
            "let a ", "each k ", "each k 0 ", "each k 0 1 cell 0 "}) {
            fault(ahead + "(((((^1)))))", 5);
            fault(ahead + "((((1))))+(((((^1)))))", 5);
        }
        good("rect ((((1)))) ((((1)))) ((((1)))) ((((1))));let a ((((1))));each k ((((1)))) ((((1)))) less k ((((1))));"
            + "cell 0 ((((0))))*((((1))));", 1);
        fault("cell (^) 0;", 1);
        fault("cell (1^;", 1);
        fault("cell (1 ^1) 0;", 1);
        fault("cell 1^) 0;", 1);
        fault("cell 1+^;", 1);
        fault("cell 1*^*1 0;", 1);
        fault("cell 1+^+1 0;", 1);
        fault("cell 1 0+^", 1);
        good("cell 9999*9999*9999*9999*9999*0 0;", 1);
        // 65536 * 65536 wraps to 0; 2147483647 + 1 is less than all.
        good("let a 256*256;cell a*a a*a+1;", 1);
        good("let a 256*256*128*256-1;let b a+1;each k a b cell k k;cell a-b+2 b-a;", 1);
        fault("let a 256*256*128*256;^cell a-1 0;", 4);
    }

    private static void namesAndEnds() {
        promise = "promise 3, names";
        fault("cell 0 ^b;", 2);
        fault("let a ^a;", 2);
        fault("each k ^k 1 cell 0 0;", 2);
        fault("each k 0 ^k cell 0 0;", 2);
        good("each k 0 1 cell k 0;each k k+1 k+2 cell k 0;cell k+1 0;", 5);
        good("let a 1;let a a+1;cell a 0;", 1);
        fault("cell 0 0;less a^", 2, 14);
        fault("cell 0 ^a A;", 2);
        fault("cell 0 0 ^a;", 1);
        String seven = "let a 0;let b 0;let c 0;let d 0;let e 0;let f 0;let g 0;";
        good(seven + "let h 1;let h 2;let a 3;cell a h;", 1);
        good(seven + "each h 1 2 cell 0 h;each a 3 3 cell b a;", 3);
        fault(seven + "let h 0;let ^i 0;", 5);
        fault(seven + "let h 0;each ^i 0 0 cell 0 0;", 5);
        fault(seven + "let h 0;let ^i i;", 5);
        fault(seven + "let h 0;let ^5", 1);
        fault(seven + "let h 0;cell ^i 0;", 2);
        fault(seven + "let h ^h;let i 0;", 2);
        GluedPaper paper = of("each k 3 2 cell 99 99;cell k 0;let n 4;each n 9 8 cell 99 99;cell n-3 k;");
        is("a name that never was told is 0 behind no numbers", paper.cell(0, 0), 0);
        is("a name that was told stays", paper.cell(1, 0), 1);
        paper = of("each i 2 1 cell 0 0;cell i 5;let i 3;each i i i cell i-2 5;");
        is("0 before its let", paper.cell(0, 0), 0);
        is("the let holds", paper.cell(1, 0), 1);
        is("names end with the text", read(paper, "cell i 0;"), 2 + 16 * 5);
    }

    private static void work() {
        promise = "promise 3, work";
        good("cell 15 15;", 1);
        fault("^cell 16 0;", 4);
        fault("^cell 0 16;", 4);
        fault("^cell 0-1 0;", 4);
        fault("cell 0 0;^cell 0 0-1;", 4);
        fault("cell 0 0;each k 0 3 ^cell 14+k 0;", 4);
        good("rect 15 6 1 10;", 10);
        good("rect 6 15 10 1;", 10);
        fault("^rect 0 0 0 1;", 4);
        fault("^rect 0 0 1 0;", 4);
        fault("^rect 0 0 17 1;", 4);
        fault("^rect 0 0 1 17;", 4);
        fault("^rect 0 0 16 1;", 7);
        fault("^rect 0 0 16 16;", 7);
        fault("^rect 15 0 2 1;", 4);
        fault("^rect 0 15 1 2;", 4);
        fault("^rect 0-1 0 2 1;", 4);
        fault("^rect 0 0-1 1 2;", 4);
        fault("^rect 16 0 1 1;", 4);
        fault("^rect 0 16 1 1;", 4);
        fault("^rect 1 0 256*256*128*256-1 1;", 4);
        fault("cell 0 0;^less 1 0;", 6);
        fault("cell 0 0;less 0 0;^less 0 0;", 6);
        fault("cell 0 0;^less 16 0;", 4);
        fault("cell 0 0;^less 0 0-1;", 4);
        good("rect 0 0 5 2;cell 0 0;rect 1 1 3 1;", 10);
        fault("rect 0 0 5 2;^cell 5 0;less 0 0;", 7);
        fault("rect 0 0 5 2;^rect 4 1 1 2;", 7);
        fault("each k 0 15 ^cell k 0;", 7);
        fault("rect 0 0 9 1;each k 0 63 ^cell 9+k k;", 7);
        good("each k 0-60 3 cell (k+60)*0 0;", 1);
        fault("cell 0 0;^each k 0 64 cell 0 0;", 4);
        fault("^each k 0-9999 9999 cell 99 0;", 4);
        fault("let m 256*256*128*256;^each k m m-1 cell 0 0;", 4);
        good("let m 256*256*128*256;each k m-1 m cell 99 0;each k m-1 m-1 cell k*0 0;", 1);
        fault("^cell 99 0;less 0 0;rect 0 0 16 16;", 4);
        fault("less 0 ^a;", 2);
        GluedPaper paper = of("rect 0 0 3 1;less 1 0;cell 1 0;less 0 0;each k 0 1 cell 2 k;");
        is("cells", paper.count(0), 3);
        is("x", paper.cell(0, 0), 1);
        is("y of the last", paper.cell(2, 1), 1);
    }

    private static void wholeFigures() {
        promise = "promise 3, whole figures";
        fault("let a 1;^", 8);
        fault("cell 0 0;less 0 0;\n^", 8);
        fault("cell 0 0;cell 2 0;^", 9);
        fault("cell 0 0;cell 1 1;^", 9);
        fault("cell 15 0;cell 0 1;^", 9);
        fault("rect 0 0 3 3;less 1 1;cell 5 5; ^", 9);
        fault("rect 0 0 3 3;less 1 1;^", 10);
        fault("rect 4 4 3 3;cell 7 4;less 5 5;^", 10);
        good(OPEN_RING, 7);
        good("rect 0 0 3 3;less 1 1;less 1 2;", 7);
        GluedPaper paper = of("rect 0 0 2 1;");
        paper.choose(0);
        paper.choose(1);
        paper.undo();
        paper.mark(2, false);
        is("a fault", read(paper, "cell 0 0;less 1 1;"), 6 + 16 * 9);
        is("a hole", read(paper, "rect 0 0 3 3;less 1 1;"), 10 + 16 * 22);
        is("cells stay", paper.count(0), 2);
        is("acts stay", paper.count(3) * 10 + paper.count(4), 11);
        is("glued stays", paper.edge(2, 3), 3);
        is("gluings stay", paper.gluings(), 5);
        is("the same text's figure anew", read(paper, "rect 0 0 2 1;"), 0);
        is("nothing is glued", paper.count(2), 0);
        is("no act is kept", paper.count(3) + paper.count(4), 0);
        yes("marks stay", paper.mark(2, true));
        is("as marked", paper.edge(2, 3), 3);
    }

    // ---- 4 to 7

    private static void cell() {
        promise = "promise 4";
        GluedPaper paper = of("cell 5 3;cell 4 4;cell 5 4;cell 3 4;");
        int[] x = {5, 3, 4, 5};
        int[] y = {3, 4, 4, 4};
        // Sides south, east, north, west; the rim runs 0S 0E 3E 3N 2N 1N 1W 1S 2S 0W.
        int[][] edges = {{0, 1, NONE, 9}, {7, NONE, 5, 6}, {8, NONE, 4, NONE}, {NONE, 2, 3, NONE}};
        for (int i = 0; i < 4; i++) {
            is("x of " + i, paper.cell(i, 0), x[i]);
            is("y of " + i, paper.cell(i, 1), y[i]);
            for (int side = 0; side < 4; side++) {
                is("edge at " + i + ", " + side, paper.cell(i, 2 + side), edges[i][side]);
            }
        }
        is("what -1", paper.cell(0, -1), NONE);
        is("what 6", paper.cell(0, 6), NONE);
        is("cell -1", paper.cell(-1, 0), NONE);
        is("cell 4", paper.cell(4, 0), NONE);
        is("far away", paper.cell(Integer.MAX_VALUE, 2) + paper.cell(0, Integer.MIN_VALUE), 2 * NONE);
    }

    private static void edge() {
        promise = "promise 5";
        GluedPaper paper = of(OPEN_RING);
        int[] cells = {0, 1, 2, 2, 4, 4, 4, 1, 3, 6, 6, 6, 5, 5, 3, 0};
        int[] sides = {0, 0, 0, 1, 1, 2, 3, 2, 1, 0, 1, 2, 2, 3, 3, 3};
        int[] quarters = {1, 2, 2, 1, 2, 1, 1, 3, 3, 3, 1, 1, 2, 1, 2, 2};
        is("edges", paper.count(1), 16);
        for (int i = 0; i < 16; i++) {
            is("cell of " + i, paper.edge(i, 0), cells[i]);
            is("side of " + i, paper.edge(i, 1), sides[i]);
            is("quarters of " + i, paper.edge(i, 2), quarters[i]);
            is("mate of " + i, paper.edge(i, 3), NONE);
            is("edge at its side", paper.cell(cells[i], 2 + sides[i]), i);
        }
        is("glue", paper.glue(9, 8), 0);
        is("mate", paper.edge(9, 3), 8);
        is("mate", paper.edge(8, 3), 9);
        is("no mate", paper.edge(7, 3), NONE);
        is("what 4", paper.edge(0, 4), NONE);
        is("what -1", paper.edge(0, -1), NONE);
        is("edge 16", paper.edge(16, 0), NONE);
        is("edge -1", paper.edge(-1, 3), NONE);
        is("far away", paper.edge(Integer.MIN_VALUE, 0), NONE);
    }

    private static void gluings() {
        promise = "promise 6";
        is("one cell", new GluedPaper().gluings(), 2);
        is("two cells", of("rect 0 0 2 1;").gluings(), 5);
        is("the cross", of(CROSS).gluings(), 17);
        GluedPaper paper = of("rect 0 0 3 1;");
        is("three in a row", paper.gluings(), 8);
        paper.glue(0, 1);
        is("whatever is glued", paper.gluings(), 8);
        read(paper, "cell 0 0;");
        is("of the figure from then on", paper.gluings(), 2);
        is("ten in a row", of("rect 0 0 10 1;").gluings(), 45);
        paper = of("rect 0 0 1 4;rect 2 0 1 4;cell 1 3;");
        is("a bay so deep that nothing fits", paper.gluings(), 0);
        is("no edge has a partner then", paper.partner(0, 0), NONE);
        no("nothing to choose", paper.choose(0));
        is("no body", paper.bodies() * 10 + paper.bodyOf(0), NONE);
    }

    private static PaperModel model(String text) {
        PaperModel model = new PaperModel();
        for (int i = 0; i < text.length(); i += 8) {
            model.feed(Calls.packed(text, i), 0, 0);
        }
        model.figure();
        return model;
    }

    private static void partner() {
        promise = "promise 7";
        GluedPaper paper = of("rect 0 0 2 1;");
        int[][] due = {{1, 0, 3, 2, 5, 4}, {1, 0, 5, 4, 3, 2}, {3, 2, 1, 0, 5, 4}, {5, 2, 1, 4, 3, 0}, {5, 4, 3, 2, 1, 0}};
        for (int i = 0; i < 5; i++) {
            for (int edge = 0; edge < 6; edge++) {
                is("edge " + edge + " by gluing " + i, paper.partner(i, edge), due[i][edge]);
            }
            is("edge 6", paper.partner(i, 6), NONE);
            is("edge -1", paper.partner(i, -1), NONE);
        }
        is("gluing 5", paper.partner(5, 0), NONE);
        is("gluing -1", paper.partner(-1, 0), NONE);
        is("far away", paper.partner(Integer.MAX_VALUE, Integer.MAX_VALUE), NONE);
    }

    // ---- 8 to 11

    private static void glue() {
        promise = "promise 8";
        GluedPaper paper = of("rect 0 0 3 1;");
        // The rim: 0 1 2 south, 3 east, 4 5 6 north, 7 west.
        is("no such one", paper.glue(-1, 0), 1);
        is("no such one", paper.glue(0, 8), 1);
        is("far away", paper.glue(Integer.MIN_VALUE, Integer.MAX_VALUE), 1);
        is("the same", paper.glue(3, 3), 1);
        is("odd between", paper.glue(0, 2), 4);
        is("odd between", paper.glue(7, 1), 4);
        is("refused is no act", paper.count(3), 0);
        is("three straight corners on one", paper.glue(1, 2), 0);
        is("the least reason: the same, before glued", paper.glue(1, 1), 1);
        is("glued", paper.glue(1, 4), 2);
        is("glued", paper.glue(0, 2), 2);
        is("glued", paper.glue(6, 2), 2);
        is("too many quarters", paper.glue(0, 3), 0);
        is("acts", paper.count(3), 2);
        paper = of("rect 0 0 3 1;");
        is("across the middle", paper.glue(5, 2), 0);
        is("inside to outside", paper.glue(3, 0), 3);
        is("outside to inside", paper.glue(6, 4), 3);
        is("crossing comes before odd", paper.glue(3, 7), 3);
        is("odd", paper.glue(7, 1), 4);
        is("inside", paper.glue(4, 3), 0);
        is("outside", paper.glue(1, 6), 0);
        is("the last two", paper.glue(7, 0), 0);
        is("all is glued", paper.count(5), 1);
        is("nothing is free", paper.glue(7, 0), 2);
        paper = of("rect 0 0 2 1;cell 0 1;");
        // The corner cut in has three quarters: edges 4 and 5 may lie on one another, their ends have 1 and 1.
        is("corner in", paper.edge(4, 2), 3);
        is("glue there", paper.glue(3, 4), 0);
        is("five quarters", paper.glue(5, 2), 0);
        paper = of(OPEN_RING);
        is("3 + 3 quarters", paper.glue(7, 8), 5);
        is("3 + 2", paper.glue(8, 15), 5);
        is("3 + 1", paper.glue(5, 6), 0);
        is("seven quarters", paper.glue(4, 7), 5);
        is("refused is no act", paper.count(3), 1);
        yes("undo", paper.undo());
        is("refused leaves what can be done again", paper.glue(7, 8), 5);
        yes("redo", paper.redo());
    }

    private static void choose() {
        promise = "promise 9";
        GluedPaper paper = of("rect 0 0 2 1;");
        paper.glue(0, 5);
        yes("choose", paper.choose(2));
        int[] due = {3, 2, 1, 0, 5, 4};
        for (int i = 0; i < 6; i++) {
            is("mate of " + i, paper.edge(i, 3), due[i]);
        }
        yes("the same one is an act", paper.choose(2));
        is("acts", paper.count(3), 3);
        yes("undo", paper.undo());
        no("gluing 5", paper.choose(5));
        no("gluing -1", paper.choose(-1));
        no("far away", paper.choose(Integer.MAX_VALUE));
        is("none is no act", paper.count(3) * 10 + paper.count(4), 21);
        is("glued as before", paper.edge(0, 3), 3);
        yes("the first", paper.choose(0));
        is("what could be done again is gone", paper.count(4), 0);
        is("edge 0", paper.edge(0, 3), 1);
    }

    private static void undo() {
        promise = "promise 10";
        GluedPaper paper = of("rect 0 0 2 1;");
        no("no act", paper.undo());
        paper.glue(0, 5);
        paper.glue(1, 2);
        paper.choose(0);
        yes("choose back", paper.undo());
        is("0 is glued to 5", paper.edge(0, 3), 5);
        is("1 is glued to 2", paper.edge(1, 3), 2);
        is("pairs", paper.count(2), 2);
        yes("glue back", paper.undo());
        is("1 is free", paper.edge(1, 3), NONE);
        is("corners", paper.corner(1, 2), 2);
        yes("glue back", paper.undo());
        is("0 is free", paper.edge(0, 3), NONE);
        no("no act", paper.undo());
        is("to do again", paper.count(4), 3);
    }

    private static void redo() {
        promise = "promise 11";
        GluedPaper paper = of("rect 0 0 2 1;");
        no("nothing", paper.redo());
        paper.glue(0, 5);
        no("nothing", paper.redo());
        paper.choose(0);
        paper.undo();
        paper.undo();
        yes("redo", paper.redo());
        is("0 is glued to 5", paper.edge(0, 3), 5);
        is("pairs", paper.count(2), 1);
        yes("redo", paper.redo());
        is("0 is glued to 1", paper.edge(0, 3), 1);
        is("the body is there", paper.count(5), 1);
        no("nothing", paper.redo());
        paper.undo();
        paper.glue(1, 2);
        no("a new act takes it away", paper.redo());
        is("1 is glued to 2", paper.edge(1, 3), 2);
    }

    private static void keptActs() {
        promise = "promises 10, 11, 24: forty acts";
        GluedPaper paper = of("rect 0 0 2 1;");
        for (int i = 0; i < 39; i++) {
            paper.choose(i % 5);
        }
        is("39", paper.count(3), 39);
        paper.choose(4);
        is("40", paper.count(3), 40);
        paper.choose(1);
        paper.choose(2);
        is("never above", paper.count(3), 40);
        for (int i = 0; i < 40; i++) {
            yes("undo " + i, paper.undo());
        }
        no("the oldest are forgotten", paper.undo());
        is("the second choice stands", paper.edge(2, 3), 5);
        is("to do again", paper.count(4), 40);
        for (int i = 0; i < 40; i++) {
            yes("redo " + i, paper.redo());
        }
        no("no more", paper.redo());
        is("the last choice stands", paper.edge(0, 3), 3);
        paper.undo();
        is("one back", paper.edge(2, 3), 5);
        paper.undo();
        is("two back", paper.edge(1, 3), 4);
        paper.choose(0);
        is("39 again", paper.count(3) * 100 + paper.count(4), 3900);
    }

    // ---- 12 to 14

    private static void corner() {
        promise = "promise 12";
        GluedPaper paper = of("rect 0 0 3 1;");
        int[] quarters = {1, 2, 2, 1, 1, 2, 2, 1};
        for (int i = 0; i < 8; i++) {
            is("least of " + i, paper.corner(i, 0), i);
            is("quarters of " + i, paper.corner(i, 1), quarters[i]);
            is("corners of " + i, paper.corner(i, 2), 1);
        }
        paper.glue(0, 7);
        is("the corner between stays alone", paper.corner(0, 2), 1);
        is("1 and 7", paper.corner(7, 0), 1);
        is("1 and 7", paper.corner(1, 1), 3);
        paper.glue(1, 6);
        is("2 and 6; 1 and 7 already", paper.corner(6, 0) * 100 + paper.corner(6, 1) * 10 + paper.corner(6, 2), 242);
        is("1 and 7", paper.corner(7, 1), 3);
        paper = of(CROSS);
        paper.glue(13, 0);
        is("modulo all: 13 + 2 is 1", paper.corner(13, 0), 1);
        is("what 3", paper.corner(0, 3), NONE);
        is("what -1", paper.corner(0, -1), NONE);
        is("corner 14", paper.corner(14, 0), NONE);
        is("corner -1", paper.corner(-1, 1), NONE);
        is("far away", paper.corner(Integer.MIN_VALUE, 2), NONE);
    }

    private static void lacking() {
        promise = "promise 13";
        GluedPaper paper = new GluedPaper();
        is("no body", paper.lacking(1), NONE);
        paper.glue(0, 1);
        is("no body yet", paper.lacking(3), NONE);
        paper.glue(3, 2);
        is("three", paper.lacking(3), 2);
        is("two", paper.lacking(2), 1);
        is("one", paper.lacking(1), 0);
        is("none", paper.lacking(0), NONE);
        is("four", paper.lacking(4), NONE);
        is("far away", paper.lacking(Integer.MIN_VALUE), NONE);
        paper = cube();
        is("a cube's corners", paper.lacking(1), 8);
        is("a cube has no others", paper.lacking(2) + paper.lacking(3), 0);
        paper = of(CROSS);
        for (int i = 0; i < 17; i++) {
            paper.choose(i);
            is("all together", paper.lacking(1) + 2 * paper.lacking(2) + 3 * paper.lacking(3), 8);
        }
        paper.undo();
        paper.glue(0, 1);
        is("the body is there still", paper.count(5), 1);
    }

    private static void beyond() {
        promise = "promise 14";
        GluedPaper paper = of("rect 0 0 2 1;");
        is("no body", paper.beyond(0, 0, 0), NONE);
        paper.choose(1);
        // 0-1, 2-5, 3-4: front and back of one square.
        int[][] side = {{0, 3, 2, 1}, {0, 3, 2, 1}};
        for (int cell = 0; cell < 2; cell++) {
            for (int i = 0; i < 4; i++) {
                is("cell beyond", paper.beyond(cell, i, 0), 1 - cell);
                is("side beyond", paper.beyond(cell, i, 1), side[cell][i]);
                is("turn", paper.beyond(cell, i, 2), 2);
            }
        }
        paper.choose(0);
        // 0-1, 2-3, 4-5: the middle of the south row and of the north row are one corner of four.
        int[] turns = {4, 4, 1, 4, 1, 2, 4, 4};
        int[] due = new int[8];
        for (int i = 0; i < 8; i++) {
            due[i] = paper.beyond(i / 4, i % 4, 2);
        }
        is("south of 0 is south of 1", paper.beyond(0, 0, 0) * 10 + paper.beyond(0, 0, 1), 10);
        is("east of 1 is its north", paper.beyond(1, 1, 0) * 10 + paper.beyond(1, 1, 1), 12);
        is("north of 0 is its west", paper.beyond(0, 2, 0) * 10 + paper.beyond(0, 2, 1), 3);
        is("east of 0 inside", paper.beyond(0, 1, 0) * 10 + paper.beyond(0, 1, 1), 13);
        is("turn north-east of 1", due[5], 1);
        is("turn north-west of 0", due[2], 1);
        is("turn between", due[0], 2);
        is("turn at all others", due[1] == 4 && due[3] == 4 && due[4] == 4 && due[6] == 4 ? 1 : 0, 1);
        is("what 3", paper.beyond(0, 0, 3), NONE);
        is("what -1", paper.beyond(0, 0, -1), NONE);
        is("side 4", paper.beyond(0, 4, 0), NONE);
        is("side -1", paper.beyond(1, -1, 0), NONE);
        is("cell 2", paper.beyond(2, 0, 0), NONE);
        is("cell -1", paper.beyond(-1, 0, 0), NONE);
        paper.undo();
        paper.undo();
        is("no body again", paper.beyond(0, 1, 0), NONE);
        paper = cube();
        for (int i = 0; i < 24; i++) {
            is("turn on a cube", paper.beyond(i / 4, i % 4, 2), 3);
            int cell = paper.beyond(i / 4, i % 4, 0);
            int there = paper.beyond(i / 4, i % 4, 1);
            is("and back", paper.beyond(cell, there, 0) * 4 + paper.beyond(cell, there, 1), i);
        }
        paper = of("rect 0 0 2 2;");
        paper.choose(0);
        is("round a corner inside", paper.beyond(0, 1, 2), 4);
        paper.choose(1);
        is("whatever is glued", paper.beyond(3, 3, 2), 4);
    }

    // ---- 15 to 17

    private static void same() {
        promise = "promise 15";
        GluedPaper paper = of("rect 0 0 2 1;");
        for (int i = 0; i < 5; i++) {
            for (int k = 0; k < 5; k++) {
                is("same " + i + ", " + k, paper.same(i, k), expectedOfTwo(i) == expectedOfTwo(k) ? 1 : 0);
            }
            is("gluing 5", paper.same(i, 5) + paper.same(5, i), 2 * NONE);
            is("gluing -1", paper.same(i, -1) + paper.same(-1, i), 2 * NONE);
        }
        paper.choose(1);
        is("whatever is glued", paper.same(0, 3), 1);
        mirrored();
    }

    /** Half a turn makes gluing 3 of gluing 0, and gluing 4 of gluing 2. */
    private static int expectedOfTwo(int gluing) {
        return gluing == 3 ? 0 : gluing == 4 ? 2 : gluing;
    }

    private static void mirrored() {
        GluedPaper paper = of("cell 2 0;rect 0 1 3 1;cell 0 2;");
        is("as seen from outside alone", paper.same(0, 3), 1);
        is("mirrored alone", paper.same(0, 5), 1);
        is("unlike", paper.same(0, 1), 0);
        paper = of("rect 0 0 3 1;cell 0 1;cell 2 1;");
        // The U is its own mirror image: south edge 0 goes to south edge 2, and so on round.
        int all = paper.gluings();
        int edges = paper.count(1);
        for (int i = 0; i < all; i++) {
            int image = NONE;
            for (int k = 0; k < all; k++) {
                boolean fits = true;
                for (int edge = 0; edge < edges; edge++) {
                    int mirror = (2 - edge + edges) % edges;
                    int mate = (2 - paper.partner(i, edge) + edges) % edges;
                    fits = fits && paper.partner(k, mirror) == mate;
                }
                image = fits ? k : image;
            }
            is("the mirror image is a gluing", image >= 0 ? 1 : 0, 1);
            is("the same as its mirror image", paper.same(i, image), 1);
        }
    }

    private static void bodies() {
        promise = "promises 16, 17";
        GluedPaper paper = of("rect 0 0 2 1;");
        for (int i = 0; i < 5; i++) {
            is("body of " + i, paper.bodyOf(i), expectedOfTwo(i));
        }
        is("bodies", paper.bodies(), 3);
        is("gluing 5", paper.bodyOf(5), NONE);
        is("gluing -1", paper.bodyOf(-1), NONE);
        is("far away", paper.bodyOf(Integer.MAX_VALUE), NONE);
        paper = of(CROSS);
        is("the cross folds to five bodies", paper.bodies(), 5);
        for (int i = 0; i < 17; i++) {
            int least = paper.bodyOf(i);
            is("the least", least <= i && paper.same(i, least) == 1 ? 1 : 0, 1);
            for (int k = 0; k < least; k++) {
                is("no lesser one", paper.same(i, k), 0);
            }
        }
        read(paper, "cell 0 0;");
        is("of the figure from then on", paper.bodies(), 1);
        is("body of 1", paper.bodyOf(1), 0);
        is("body of 2", paper.bodyOf(2), NONE);
    }

    // ---- 18 to 21

    private static void way() {
        promise = "promise 18";
        GluedPaper paper = new GluedPaper();
        is("no body", paper.way(0, 1, 0, 0), NONE);
        paper.choose(0);
        // South is glued to east, north to west: each step turns.
        is("south", paper.way(0, 0, -1, 1), 3);
        is("east", paper.way(0, 1, 0, 1), 1);
        is("north", paper.way(0, 0, 1, 1), 3);
        is("west", paper.way(0, -1, 0, 1), 1);
        is("nowhere", paper.way(0, 0, 0, 0) * 10 + paper.way(0, 0, 0, 1), 0);
        is("east, then what is east there", paper.way(0, 2, 0, 1), 0);
        is("through a corner that lacks", paper.way(0, 1, 1, 0), NONE);
        is("what 2", paper.way(0, 1, 0, 2), NONE);
        is("what -1", paper.way(0, 1, 0, -1), NONE);
        is("cell 1", paper.way(1, 1, 0, 0), NONE);
        is("cell -1", paper.way(-1, 1, 0, 0), NONE);
        is("as far as can be", paper.way(0, 12, 0, 0), 0);
        is("too far", paper.way(0, 13, 0, 0), NONE);
        is("too far", paper.way(0, -13, 0, 0), NONE);
        is("too far", paper.way(0, 0, 13, 0), NONE);
        is("too far", paper.way(0, 0, -13, 1), NONE);
        is("far away", paper.way(0, Integer.MIN_VALUE, Integer.MAX_VALUE, 1), NONE);
        paper = of("rect 0 0 2 2;");
        paper.choose(0);
        is("through the corner inside", paper.way(0, 1, 1, 0), 3);
        is("and back", paper.way(3, -1, -1, 0), 0);
        is("the other one", paper.way(1, -1, 1, 0), 2);
        is("and back", paper.way(2, 1, -1, 0), 1);
        is("not turned", paper.way(2, 1, -1, 1), 0);
        cubeWays();
    }

    /** The cross: 0, 1 the stem, 2 3 4 the row with the arms, 5 the top; 1 is over 5, 0 over 3, 2 over 4. */
    private static void cubeWays() {
        GluedPaper paper = cube();
        int[] up = {0, 1, 3, 5};
        for (int i = 0; i < 4; i++) {
            for (int steps = -12; steps <= 12; steps++) {
                is("up the stem", paper.way(up[i], 0, steps, 0), up[(i + steps + 12) % 4]);
                is("up the stem, not turned", paper.way(up[i], 0, steps, 1), 0);
            }
        }
        is("east from the middle", paper.way(3, 1, 0, 0), 4);
        is("twice", paper.way(3, 2, 0, 0), 0);
        is("twice: upside down", paper.way(3, 2, 0, 1), 2);
        is("three times", paper.way(3, 3, 0, 0), 2);
        is("all round", paper.way(3, 4, 0, 0) * 10 + paper.way(3, 4, 0, 1), 30);
        // Up into 5, right into the arm 4 through its north, and up there, which is east, into 0's east.
        is("a knight's way", paper.way(3, 1, 2, 0), 0);
        is("turned", paper.way(3, 1, 2, 1), 1);
        is("through a cube's corner", paper.way(3, 1, 1, 0), NONE);
        is("through a cube's corner", paper.way(3, -3, 9, 1), NONE);
    }

    private static void shortest() {
        promise = "promise 19";
        GluedPaper paper = of("rect 0 0 2 1;");
        is("no body", shortest(paper, 0, 1, 0), Calls.THROWN);
        paper.choose(1);
        is("length", shortest(paper, 0, 1, 0), 1);
        is("how many", shortest(paper, 0, 1, 1), 4);
        is("dx", shortest(paper, 0, 1, 2), -1);
        is("dy", shortest(paper, 0, 1, 3), 0);
        is("to itself", shortest(paper, 1, 1, 0), 0);
        is("to itself, once", shortest(paper, 1, 1, 1), 1);
        is("to itself, dx dy", shortest(paper, 1, 1, 2) * 10 + shortest(paper, 1, 1, 3), 0);
        is("what 4", shortest(paper, 0, 1, 4), Calls.THROWN);
        is("what -1", shortest(paper, 0, 1, -1), Calls.THROWN);
        is("from 2", shortest(paper, 2, 1, 0), Calls.THROWN);
        is("from -1", shortest(paper, -1, 1, 0), Calls.THROWN);
        is("to 2", shortest(paper, 0, 2, 0), Calls.THROWN);
        is("to -1", shortest(paper, 0, -1, 0), Calls.THROWN);
        paper = cube();
        is("to the other face", shortest(paper, 0, 3, 0), 4);
        is("four ways", shortest(paper, 0, 3, 1), 4);
        is("first dx", shortest(paper, 0, 3, 2), -2);
        is("first dy", shortest(paper, 0, 3, 3), 0);
        is("next to it", shortest(paper, 3, 5, 0) * 10 + shortest(paper, 3, 5, 1), 11);
        is("its dx", shortest(paper, 3, 5, 2), 0);
        is("its dy", shortest(paper, 3, 5, 3), 1);
        is("another one right behind", shortest(paper, 5, 3, 3), -1);
        paper = of("rect 0 0 2 1;");
        paper.choose(1);
        is("on front and back", shortest(paper, 0, 1, 1), 4);
        paper.choose(0);
        is("on the body as it is now", shortest(paper, 0, 1, 1), 2);
        is("of equal dx and so on the first", shortest(paper, 0, 1, 2) * 10 + shortest(paper, 0, 1, 3), -1);
        paper.undo();
        is("as it was again", shortest(paper, 0, 1, 1), 4);
        paper = of("rect 0 0 2 2;");
        paper.choose(0);
        is("across a corner", shortest(paper, 0, 3, 0), 2);
        is("inside and where the four tips meet", shortest(paper, 0, 3, 1), 2);
        is("first dx, dy", shortest(paper, 0, 3, 2) * 10 + shortest(paper, 0, 3, 3), -11);
    }

    private static void round() {
        promise = "promise 20";
        GluedPaper paper = new GluedPaper();
        is("no body", round(paper, 0, 0), Calls.THROWN);
        paper.choose(0);
        is("one cell", round(paper, 0, 0), 4);
        is("how many", round(paper, 0, 1), 4);
        is("dx", round(paper, 0, 2), -2);
        is("dy", round(paper, 0, 3), 0);
        is("what 4", round(paper, 0, 4), Calls.THROWN);
        is("what -1", round(paper, 0, -1), Calls.THROWN);
        is("cell 1", round(paper, 1, 0), Calls.THROWN);
        is("cell -1", round(paper, -1, 0), Calls.THROWN);
        paper = cube();
        for (int cell = 0; cell < 6; cell++) {
            is("round a cube", round(paper, cell, 0), 16);
            is("four ways", round(paper, cell, 1), 4);
            is("dx", round(paper, cell, 2), -4);
            is("dy", round(paper, cell, 3), 0);
        }
        paper = of("cell 1 0;cell 1 1;rect 0 2 6 1;");
        paper.choose(1);
        is("as far as can be", round(paper, 3, 0), 144);
        is("how many so far", round(paper, 3, 1), 4);
        is("dx so far", round(paper, 3, 2) * 100 + round(paper, 3, 3), -1200);
        paper = of("rect 0 0 1 8;");
        paper.choose(1);
        for (int what = 0; what < 4; what++) {
            is("none", round(paper, 0, what), Calls.THROWN);
        }
        paper = of("rect 0 0 8 1;");
        PaperModel model = model("rect 0 0 8 1;");
        for (int i = 0; i < paper.gluings(); i++) {
            paper.choose(i);
            model.choose(i);
            long due = Calls.on(model, Calls.number("round"), 3, 0);
            is("a long strip", round(paper, 3, 0), due);
        }
    }

    private static void farthest() {
        promise = "promise 21";
        GluedPaper paper = new GluedPaper();
        is("no body", paper.farthest(0), NONE);
        paper.choose(1);
        is("itself", paper.farthest(0), 0);
        is("cell 1", paper.farthest(1), NONE);
        is("cell -1", paper.farthest(-1), NONE);
        paper = cube();
        int[] other = {3, 5, 4, 0, 2, 1};
        for (int cell = 0; cell < 6; cell++) {
            is("the other face", paper.farthest(cell), other[cell]);
        }
        paper = of("rect 0 0 3 1;");
        for (int i = 0; i < paper.gluings(); i++) {
            paper.choose(i);
            for (int cell = 0; cell < 3; cell++) {
                int first = 0;
                for (int to = 0; to < 3; to++) {
                    first = shortest(paper, cell, to, 0) > shortest(paper, cell, first, 0) ? to : first;
                }
                is("the first of equal ones", paper.farthest(cell), first);
            }
        }
    }

    // ---- 22 to 24

    private static void nets() {
        promise = "promise 22";
        GluedPaper paper = new GluedPaper();
        is("no body", paper.nets(0), NONE);
        paper.choose(0);
        is("one cell", paper.nets(0) * 100 + paper.nets(1) * 10 + paper.nets(2), 111);
        is("what 3", paper.nets(3), NONE);
        is("what -1", paper.nets(-1), NONE);
        paper = of("rect 0 0 2 1;");
        paper.choose(1);
        is("front and back", paper.nets(0) * 100 + paper.nets(1) * 10 + paper.nets(2), 441);
        paper.choose(0);
        is("two sides of four", paper.nets(0) * 100 + paper.nets(1) * 10 + paper.nets(2), 221);
        paper = cube();
        is("a cube's trees", paper.nets(0), 384);
        is("all lie flat", paper.nets(1), 384);
        is("eleven nets", paper.nets(2), 11);
        paper = of("rect 0 0 8 1;");
        paper.choose(0);
        is("eight cells", paper.nets(0) > 0 ? 1 : 0, 1);
        paper = of("rect 0 0 9 1;");
        paper.choose(0);
        is("nine cells", paper.nets(0), NONE);
        is("nine cells", paper.nets(2), NONE);
    }

    private static void mark() {
        promise = "promise 23";
        GluedPaper paper = of("rect 0 0 2 1;");
        no("nothing on it", paper.mark(0, true));
        no("none such", paper.mark(4, false));
        no("none such", paper.mark(-1, false));
        no("none such", paper.mark(4, true));
        no("none such", paper.mark(Integer.MIN_VALUE, true));
        paper.glue(0, 1);
        yes("laid", paper.mark(3, false));
        is("acts stay when it is laid", paper.count(3), 1);
        paper.glue(2, 3);
        paper.undo();
        paper.glue(3, 4);
        is("another figure", read(paper, "cell 7 8;"), 0);
        paper.choose(1);
        yes("laid", paper.mark(0, false));
        put(paper, "  ");
        yes("back", paper.mark(3, true));
        is("cells", paper.count(0), 2);
        is("glued as it was", paper.edge(0, 3), 1);
        is("only that", paper.count(2), 1);
        is("corners", paper.corner(2, 0), 0);
        is("acts are forgotten", paper.count(3) + paper.count(4), 0);
        is("the tape stays", paper.count(6), 2);
        is("gluings of the figure", paper.gluings(), 5);
        no("no act", paper.undo());
        paper.glue(2, 3);
        yes("back once more", paper.mark(3, true));
        is("the mark was not changed", paper.count(2), 1);
        yes("the other one", paper.mark(0, true));
        is("x", paper.cell(0, 0), 7);
        is("y", paper.cell(0, 1), 8);
        is("the body is there", paper.lacking(3), 2);
        is("gluings of the figure", paper.gluings(), 2);
        no("no act", paper.undo());
        no("nothing on 1", paper.mark(1, true));
        paper.undo();
        yes("laid anew", paper.mark(3, false));
        read(paper, "rect 0 0 3 1;");
        yes("back", paper.mark(3, true));
        is("the newer one", paper.count(0), 1);
    }

    private static void count() {
        promise = "promise 24";
        GluedPaper paper = of("rect 0 0 3 1;");
        put(paper, "cell");
        paper.glue(0, 1);
        paper.glue(2, 3);
        paper.glue(4, 7);
        paper.undo();
        int[] due = {3, 8, 2, 2, 1, 0, 4};
        for (int what = 0; what < 7; what++) {
            is("count " + what, paper.count(what), due[what]);
        }
        paper.choose(0);
        is("pairs", paper.count(2), 4);
        is("the body is there", paper.count(5), 1);
        is("what 7", paper.count(7), NONE);
        is("what -1", paper.count(-1), NONE);
        is("far away", paper.count(Integer.MAX_VALUE), NONE);
        is("ten cells", of("rect 3 3 10 1;").count(1), 22);
        is("ten cells in two rows", of("rect 3 3 5 2;").count(1), 14);
    }
}
