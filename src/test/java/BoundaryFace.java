/** Boundaries of the calls by themselves: what they answer of others than there are. */
final class BoundaryFace extends Sentences {
    BoundaryFace() {
        objects();
        flat();
        counts();
    }

    private void objects() {
        say("none", "The constants: `NONE = -1`: None.", () -> {
            is("NONE", constant("NONE"), -1);
            is("as it is answered", new GluedPaper().count(7), -1);
        });
        say("new", "One CELL, nothing GLUED.", () -> {
            GluedPaper paper = new GluedPaper();
            is("squares", paper.count(0), 1);
            is("rim", rim(paper), "0S 0E 0N 0W");
            is("glued", edges(paper, 3), "-1 -1 -1 -1");
            for (int what = 2; what <= 6; what++) {
                is("count " + what, paper.count(what), 0);
            }
            no("undo", paper.undo());
            no("redo", paper.redo());
            for (int mark = 0; mark < 4; mark++) {
                no("mark", paper.mark(mark, true));
            }
            is("gluings", paper.gluings(), 2);
            is("reading nothing", paper.figure(), 8);
            is("the CELL stays", paper.count(0), 1);
        });
        say("512 calls", "An object is used for at most 512 calls after it has been made", () -> {
            GluedPaper paper = new GluedPaper();
            for (int i = 0; i < 50; i++) {
                // Ten calls each time, the first two of them by put.
                is("figure", read(paper, "rect 0 0 8 1;"), 0);
                yes("choose", paper.choose(i % 32));
                is("corners", paper.lacking(1) + 2 * paper.lacking(2) + 3 * paper.lacking(3), 8);
                is("bodies", paper.bodies(), 8);
                yes("mark", paper.mark(i % 4, false));
                yes("undo", paper.undo());
            }
            for (int i = 0; i < 11; i++) {
                paper.feed(-1, 0, 0x20);
            }
            is("the 512th", paper.count(6), 11);
        });
    }

    /** What the class itself holds, not what the compiler has put here in its stead. */
    private static int constant(String name) {
        try {
            return GluedPaper.class.getField(name).getInt(null);
        } catch (ReflectiveOperationException none) {
            throw new IllegalStateException(none);
        }
    }

    private void flat() {
        say("cell others", "Of a CELL, what 0: x, 1: y, 2 + s: the EDGE at SIDE s (NONE: none); NONE: others.", () -> {
            GluedPaper paper = of("rect 14 15 2 1;");
            is("x", paper.cell(1, 0), 15);
            is("y", paper.cell(1, 1), 15);
            int[][] due = {{0, NONE, 4, 5}, {1, 2, 3, NONE}};
            for (int i = 0; i < 8; i++) {
                is("EDGE at SIDE " + i % 4 + " of " + i / 4, paper.cell(i / 4, 2 + i % 4), due[i / 4][i % 4]);
            }
            is("what -1", paper.cell(0, -1), NONE);
            is("what 6", paper.cell(0, 6), NONE);
            is("CELL -1", paper.cell(-1, 0), NONE);
            is("CELL 2", paper.cell(2, 0), NONE);
            is("far away", paper.cell(MIN, 3), NONE);
            is("far away", paper.cell(1, MAX), NONE);
        });
        say("edge others", "Of an EDGE, what 0: its CELL, 1: its SIDE, 2: QUARTERS of the CORNER where it begins", () -> {
            GluedPaper paper = of("rect 0 0 2 1;");
            is("the last", paper.edge(5, 0) * 10 + paper.edge(5, 1), 3);
            is("QUARTERS where it begins", paper.edge(4, 2), 2);
            paper.glue(0, 5);
            is("QUARTERS of that CORNER alone", paper.edge(1, 2), 2);
            is("what -1", paper.edge(0, -1), NONE);
            is("what 4", paper.edge(0, 4), NONE);
            is("EDGE -1", paper.edge(-1, 0), NONE);
            is("EDGE 6", paper.edge(6, 0), NONE);
            is("far away", paper.edge(MAX, 3), NONE);
            is("far away", paper.edge(0, MIN), NONE);
        });
        say("partner others", "What an EDGE is glued to by a GLUING; NONE: others.", () -> {
            GluedPaper paper = of("rect 0 0 2 1;");
            is("the last of the last", paper.partner(4, 5), 0);
            is("GLUING -1", paper.partner(-1, 0), NONE);
            is("GLUING 5", paper.partner(5, 0), NONE);
            is("EDGE -1", paper.partner(0, -1), NONE);
            is("EDGE 6", paper.partner(0, 6), NONE);
            is("far away", paper.partner(MAX, 0), NONE);
            is("far away", paper.partner(0, MIN), NONE);
        });
        say("corner others", "what 0: the least, 1: QUARTERS together, 2: how many CORNERS; NONE: others.", () -> {
            GluedPaper paper = of("rect 0 0 2 1;");
            paper.glue(4, 1);
            is("the least", corners(paper, 0), "0 1 2 3 2 1");
            is("together", corners(paper, 1), "1 3 3 1 3 3");
            is("how many", corners(paper, 2), "1 2 2 1 2 2");
            is("what -1", paper.corner(0, -1), NONE);
            is("what 3", paper.corner(0, 3), NONE);
            is("CORNER -1", paper.corner(-1, 0), NONE);
            is("CORNER 6", paper.corner(6, 0), NONE);
            is("far away", paper.corner(MIN, 1), NONE);
        });
        say("lacking others", "How many corners of the BODY LACK so many QUARTERS (1 to 3); NONE: others, no BODY.", () -> {
            GluedPaper paper = body("rect 0 0 2 1;", 0);
            for (int quarters = -1; quarters <= 5; quarters++) {
                int due = quarters < 1 || quarters > 3 ? NONE : quarters - 1;
                is("lacking " + quarters, paper.lacking(quarters), due);
            }
            is("far away", paper.lacking(MIN), NONE);
            is("far away", paper.lacking(MAX), NONE);
            paper.undo();
            for (int quarters = 1; quarters <= 3; quarters++) {
                is("no BODY", paper.lacking(quarters), NONE);
            }
        });
        say("beyond others", "BEYOND a SIDE, what 0: the CELL, 1: its SIDE, 2: TURN of the corner behind the SIDE; NONE: others, no BODY.", () -> {
            GluedPaper paper = body("rect 0 0 2 1;", 1);
            is("the last", paper.beyond(1, 3, 0) * 100 + paper.beyond(1, 3, 1) * 10 + paper.beyond(1, 3, 2), 12);
            is("what -1", paper.beyond(0, 0, -1), NONE);
            is("what 3", paper.beyond(0, 0, 3), NONE);
            is("SIDE -1", paper.beyond(0, -1, 0), NONE);
            is("SIDE -1 of another", paper.beyond(1, -1, 0), NONE);
            is("SIDE 4", paper.beyond(0, 4, 0), NONE);
            is("CELL -1", paper.beyond(-1, 0, 0), NONE);
            is("CELL 2", paper.beyond(2, 0, 0), NONE);
            is("far away", paper.beyond(MAX, MAX, MAX), NONE);
            paper.undo();
            is("no BODY", paper.beyond(0, 1, 0), NONE);
            is("no BODY", paper.beyond(0, 1, 2), NONE);
        });
    }

    private void counts() {
        say("count", "What 0: CELLS, 1: EDGES, 2: GLUED pairs, 3: ACTS that can be undone, 4: that can be done again", () -> {
            GluedPaper paper = of("rect 0 0 3 1;");
            paper.glue(0, 7);
            paper.glue(1, 6);
            paper.glue(2, 5);
            paper.undo();
            int[] due = {3, 8, 2, 2, 1, 0, 0};
            for (int what = 0; what < 7; what++) {
                is("count " + what, paper.count(what), due[what]);
            }
            is("one CELL has four EDGES", new GluedPaper().count(1), 4);
            is("ten have 22 at most", of("rect 3 3 10 1;").count(1), 22);
        });
        say("count body and signs", "5: 1 if the BODY is there, 6: signs on the TAPE.", () -> {
            GluedPaper paper = of("rect 0 0 3 1;");
            paper.choose(0);
            is("body", paper.count(5), 1);
            is("pairs", paper.count(2), 4);
            put(paper, "cell 1 1");
            is("signs", paper.count(6), 8);
            paper.undo();
            is("no body", paper.count(5), 0);
            paper.glue(0, 7);
            is("with one pair none yet", paper.count(5), 0);
        });
        say("count others", "NONE for another what.", () -> {
            GluedPaper paper = new GluedPaper();
            is("-1", paper.count(-1), NONE);
            is("7", paper.count(7), NONE);
            is("far away", paper.count(MIN), NONE);
            is("far away", paper.count(MAX), NONE);
        });
    }
}
