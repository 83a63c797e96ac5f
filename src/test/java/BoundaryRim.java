/** Boundaries of the RIM, of GLUINGS and of what is GLUED by hand: promises 4 to 12. */
final class BoundaryRim extends Sentences {
    /** Three squares about a corner, which is cut in at each of the four places. */
    private static final String CUT_SOUTH_WEST = "cell 1 0;rect 0 1 2 1;";
    private static final String CUT_SOUTH_EAST = "rect 0 0 1 2;cell 1 1;";
    private static final String CUT_NORTH_EAST = "rect 0 0 2 1;cell 0 1;";
    private static final String CUT_NORTH_WEST = "rect 0 0 2 1;cell 1 1;";

    /** All GLUINGS of two squares, 0S 1S 1E 1N 0N 0W. */
    private static final String[] OF_TWO = {"1 0 3 2 5 4", "1 0 5 4 3 2", "3 2 1 0 5 4", "5 2 1 4 3 0", "5 4 3 2 1 0"};

    BoundaryRim() {
        rims();
        gluedCorners();
        allGluings();
        refusals();
        acts();
    }

    private void rims() {
        say("sides", "SIDES of a CELL: 0 south (y less), 1 east, 2 north, 3 west.", () -> {
            GluedPaper paper = of("cell 1 0;rect 0 1 3 1;cell 1 2;");
            int[][] inside = {{NONE, NONE, 1, NONE}, {NONE, 1, NONE, NONE}, {1, 1, 1, 1}, {NONE, NONE, NONE, 1}, {1, NONE, NONE, NONE}};
            for (int i = 0; i < 20; i++) {
                boolean open = paper.cell(i / 4, 2 + i % 4) != NONE;
                is("an EDGE at CELL " + i / 4 + ", SIDE " + i % 4, open ? 1 : 0, inside[i / 4][i % 4] == NONE ? 1 : 0);
            }
        });
        say("rim no cell", "The RIM: SIDES with no CELL behind them", () -> {
            GluedPaper paper = of("rect 15 6 1 10;");
            is("ten upwards at the field's end", paper.count(1), 22);
            is("east at the field's end", paper.cell(0, 3) >= 0 && paper.cell(9, 4) >= 0 ? 1 : 0, 1);
            is("between", paper.cell(0, 4), NONE);
            is("three by three", of("rect 0 0 3 3;").count(1), 12);
            is("its middle", of("rect 0 0 3 3;").cell(4, 2), NONE);
        });
        say("rim from", "from the south SIDE of CELL 0 on, numbered from 0", () -> {
            is("one", rim(new GluedPaper()), "0S 0E 0N 0W");
            is("two", rim(of("rect 7 7 2 1;")), "0S 1S 1E 1N 0N 0W");
            is("the lowest, of these the one farthest west", rim(of("cell 2 0;rect 0 1 3 1;cell 0 0;")),
                "0S 0E 3S 1W 1S 1E 4E 4N 3N 2N 2W 0W");
        });
        say("rim row", "behind SIDE s of a CELL comes, if there is no CELL beyond its SIDE s + 1 (modulo 4), that SIDE of it", () -> {
            is("round one, 3 + 1 being 0", rim(new GluedPaper()), "0S 0E 0N 0W");
            is("at the ends of a row", rim(of("rect 0 0 3 1;")), "0S 1S 2S 2E 2N 1N 0N 0W");
            is("from 1W to 1S, not the first", rim(of(CUT_SOUTH_WEST)), "0S 0E 2E 2N 1N 1W 1S 0W");
        });
        say("rim straight", "else, if that one, A, has none beyond its SIDE s, SIDE s of A", () -> {
            is("south and north", rim(of("rect 0 0 2 1;")), "0S 1S 1E 1N 0N 0W");
            is("east and west", rim(of("rect 0 0 1 2;")), "0S 0E 1E 1N 1W 0W");
        });
        say("rim in", "else SIDE s + 3 (modulo 4) of the CELL beyond SIDE s of A", () -> {
            is("from south, 0 + 3", rim(of(CUT_SOUTH_WEST)), "0S 0E 2E 2N 1N 1W 1S 0W");
            is("from east, 1 + 3", rim(of(CUT_SOUTH_EAST)), "0S 0E 2S 2E 2N 1N 1W 0W");
            is("from north, 2 + 3", rim(of(CUT_NORTH_EAST)), "0S 1S 1E 1N 2E 2N 2W 0W");
            is("from west, 3 + 3", rim(of(CUT_NORTH_WEST)), "0S 1S 1E 2E 2N 2W 0N 0W");
        });
        say("rim touch", "(CELLS that touch at a corner alone do not hang together there.)", () -> {
            is("in at the corner and out there", rim(of(OPEN_RING)), "0S 1S 2S 2E 4E 4N 4W 1N 3E 6S 6E 6N 5N 5W 3W 0W");
            is("at the other corner", rim(of("rect 0 0 3 3;less 1 1;less 0 0;")),
                "0S 1S 1E 3E 6E 6N 5N 4N 4W 2W 2S 2E 5S 3W 0N 0W");
        });
        say("corner quarters", "it has 1, 2 or 3 QUARTERS of a turn, by these three ways from EDGE i - 1 to EDGE i", () -> {
            is("one", edges(new GluedPaper(), 2), "1 1 1 1");
            is("two", edges(of("rect 0 0 2 1;"), 2), "1 2 1 1 2 1");
            is("south-west", edges(of(CUT_SOUTH_WEST), 2), "1 1 2 1 2 1 1 3");
            is("south-east", edges(of(CUT_SOUTH_EAST), 2), "1 1 3 1 1 2 1 2");
            is("north-east", edges(of(CUT_NORTH_EAST), 2), "1 2 1 1 3 1 1 2");
            is("north-west", edges(of(CUT_NORTH_WEST), 2), "1 2 1 2 1 1 3 1");
            is("where two touch each has its own", edges(of(OPEN_RING), 2), "1 2 2 1 2 1 1 3 3 3 1 1 2 1 2 2");
        });
    }

    private void gluedCorners() {
        say("glued corners", "CORNER a is one with CORNER b + 1, CORNER a + 1 with CORNER b", () -> {
            GluedPaper paper = of("rect 0 0 3 1;");
            is("before", corners(paper, 0), "0 1 2 3 4 5 6 7");
            paper.glue(1, 6);
            is("1 with 7, 2 with 6", corners(paper, 0), "0 1 2 3 4 5 2 1");
            is("together", corners(paper, 1), "1 3 4 1 1 2 4 3");
            is("how many", corners(paper, 2), "1 2 2 1 1 1 2 2");
            paper.undo();
            paper.glue(6, 1);
            is("the other way round", corners(paper, 0), "0 1 2 3 4 5 2 1");
        });
        say("corners modulo", "CORNER a + 1 with CORNER b (modulo all)", () -> {
            GluedPaper paper = of("rect 0 0 3 1;");
            paper.glue(7, 0);
            is("the last one's end is CORNER 0", corners(paper, 0), "0 1 2 3 4 5 6 1");
            is("which is one with itself alone", paper.corner(0, 2), 1);
            paper = of("rect 0 0 3 1;");
            paper.glue(2, 7);
            is("7 + 1 is 0, one with 2", corners(paper, 0), "0 1 0 3 4 5 6 3");
            paper = of("rect 0 0 3 1;");
            paper.glue(7, 2);
            is("the same told the other way", corners(paper, 0), "0 1 0 3 4 5 6 3");
            // 9 + 1 is 0, not 9: 9 with 3 and 0 with 2 are 3 QUARTERS each, all four would be 6.
            is("not too many where the last one ends", of("rect 0 0 4 1;").glue(9, 2), 0);
            is("nor where it is told behind", of("rect 0 0 4 1;").glue(2, 9), 0);
            // 9 + 1 is 0, one with 2 by then, and there is a row of 22 EDGES ahead, in which 10 is no 0: 3 and 2 at CORNER 6.
            paper = of("rect 0 0 10 1;");
            read(paper, "rect 0 0 4 1;");
            is("0 with 2", paper.glue(0, 1), 0);
            is("too many where the last one ends", paper.glue(9, 6), 5);
            is("and where it is told behind", paper.glue(6, 9), 5);
        });
        say("edge glued", "3: what it is GLUED to (NONE: nothing)", () -> {
            GluedPaper paper = of("rect 0 0 2 1;");
            is("nothing", edges(paper, 3), "-1 -1 -1 -1 -1 -1");
            paper.glue(5, 0);
            is("both", edges(paper, 3), "5 -1 -1 -1 -1 0");
        });
    }

    private void allGluings() {
        say("gluing pairs", "A GLUING pairs all EDGES, none across another pair (of a < c < b not b < d: c, d)", () -> {
            GluedPaper paper = of("rect 2 0 1 3;rect 0 2 2 1;");
            for (int gluing = 0; gluing < paper.gluings(); gluing++) {
                for (int a = 0; a < paper.count(1); a++) {
                    int b = paper.partner(gluing, a);
                    boolean pair = b >= 0 && b != a && paper.partner(gluing, b) == a;
                    is("EDGE " + a + " has a partner", pair ? 1 : 0, 1);
                    for (int c = a + 1; c < b; c++) {
                        int d = paper.partner(gluing, c);
                        is("inside", a < d && d < b ? 1 : 0, 1);
                    }
                    paper = a % 8 == 0 ? of("rect 2 0 1 3;rect 0 2 2 1;") : paper;
                }
            }
            // Across would be 0 3, 1 4, 2 5, which would give no CORNERS more than 4 QUARTERS.
            is("two squares'", of("rect 0 0 2 1;").gluings(), 5);
            is("a square's", new GluedPaper().gluings(), 2);
        });
        say("four quarters", "so that CORNERS that are one have 4 QUARTERS together at most", () -> {
            GluedPaper paper = body("rect 0 0 2 1;", 0);
            is("four are none too many", paper.corner(0, 1), 4);
            is("all five pairings of six EDGES", paper.gluings(), 5);
            // Eight EDGES have fourteen pairings without a crossing: six would have a CORNER with more.
            is("three in a row", of("rect 0 0 3 1;").gluings(), 8);
            is("the cross", of(CROSS).gluings(), 17);
            is("a bay so deep that nothing fits", of("rect 0 0 1 4;rect 2 0 1 4;cell 1 3;").gluings(), 0);
            for (int i = 0; i < 17; i++) {
                paper = body(CROSS, i);
                for (int corner = 0; corner < 14; corner++) {
                    is("not more than 4", paper.corner(corner, 1) <= 4 ? 1 : 0, 1);
                }
            }
        });
        say("gluings numbered", "GLUINGS are numbered by what EDGE 0 is glued to, then the least EDGE that is not glued yet, and so on.", () -> {
            is("0", partners(new GluedPaper(), 0), "1 0 3 2");
            is("1", partners(new GluedPaper(), 1), "3 2 1 0");
            GluedPaper paper = of("rect 0 0 2 1;");
            for (int i = 0; i < 5; i++) {
                is("gluing " + i, partners(paper, i), OF_TWO[i]);
            }
            GluedPaper cross = of(CROSS);
            for (int i = 1; i < 17; i++) {
                int edge = 0;
                while (edge < 13 && cross.partner(i - 1, edge) == cross.partner(i, edge)) {
                    edge++;
                }
                is("in order", cross.partner(i - 1, edge) < cross.partner(i, edge) ? 1 : 0, 1);
                cross = i % 8 == 0 ? of(CROSS) : cross;
            }
        });
        say("gluings asked", "They are asked about if there are 2,000 at most.", () -> {
            GluedPaper paper = of("rect 0 0 10 1;");
            is("the most that ten CELLS have", paper.gluings(), 45);
            is("the last is asked about", paper.partner(44, 0), 21);
            is("none behind", paper.partner(45, 0), NONE);
            yes("the last is chosen", paper.choose(44));
            no("none behind", paper.choose(45));
            is("the same", paper.same(44, 44), 1);
            is("none behind", paper.same(45, 45), NONE);
            is("none", of("rect 0 0 1 4;rect 2 0 1 4;cell 1 3;").partner(0, 0), NONE);
        });
        say("gluings free", "How many GLUINGS there are", () -> {
            GluedPaper paper = of("rect 0 0 2 1;");
            paper.glue(0, 1);
            is("gluings", paper.gluings(), 5);
            is("partner", paper.partner(4, 0), 5);
            read(paper, "cell 0 0;");
            is("of the new FIGURE", paper.gluings(), 2);
            is("partner", paper.partner(1, 0), 3);
            is("EDGE 4", paper.partner(1, 4), NONE);
        });
    }

    private void refusals() {
        say("refused 1", "REFUSED, the first of: 1 no such ones, the same", () -> {
            GluedPaper paper = of("rect 0 0 3 1;");
            is("-1", paper.glue(-1, 0), 1);
            is("-1 behind", paper.glue(0, -1), 1);
            is("8", paper.glue(8, 1), 1);
            is("8 behind", paper.glue(1, 8), 1);
            is("far away", paper.glue(MIN, MAX), 1);
            is("the same", paper.glue(0, 0), 1);
            is("the same, the last", paper.glue(7, 7), 1);
            is("the last is one", paper.glue(7, 0), 0);
            is("the same that is GLUED: 1 is first", paper.glue(7, 7), 1);
            is("none with one that is GLUED: 1 is first", paper.glue(0, 8), 1);
        });
        say("refused 2", "2 one is GLUED", () -> {
            GluedPaper paper = of("rect 0 0 3 1;");
            paper.glue(2, 5);
            is("the first", paper.glue(2, 1), 2);
            is("the second", paper.glue(1, 2), 2);
            is("its partner", paper.glue(1, 5), 2);
            is("both", paper.glue(5, 2), 2);
            is("2 is ahead of 4", paper.glue(2, 0), 2);
            paper.glue(0, 7);
            is("2 is ahead of 3", paper.glue(3, 0), 2);
        });
        say("refused 3", "3 a GLUED pair has one of them between its two, the other one not", () -> {
            GluedPaper paper = of("rect 0 0 3 1;");
            paper.glue(2, 5);
            is("first inside", paper.glue(3, 0), 3);
            is("second inside", paper.glue(0, 3), 3);
            is("beyond", paper.glue(6, 4), 3);
            is("3 is ahead of 4", paper.glue(3, 7), 3);
            is("next to one of the pair", paper.glue(1, 4), 3);
            is("both inside", paper.glue(3, 4), 0);
            is("both outside, on either hand", paper.glue(1, 6), 0);
            is("both outside, round CORNER 0", paper.glue(0, 7), 0);
        });
        say("refused 4", "4 between them (not counting them) is an odd number of EDGES", () -> {
            GluedPaper paper = of("rect 0 0 3 1;");
            is("one", paper.glue(0, 2), 4);
            is("three", paper.glue(0, 4), 4);
            is("five", paper.glue(7, 1), 4);
            is("4 is ahead of 5", of(OPEN_RING).glue(7, 9), 4);
            is("none", paper.glue(0, 1), 0);
            paper.undo();
            is("two", paper.glue(0, 3), 0);
            paper.undo();
            is("six", paper.glue(0, 7), 0);
        });
        say("refused 5", "5 some CORNERS that are one then have more than 4 QUARTERS", () -> {
            GluedPaper paper = of(OPEN_RING);
            is("3 + 3", paper.glue(7, 8), 5);
            is("3 + 2 where 8 ends", paper.glue(8, 15), 5);
            is("2 + 3 where 1 begins", paper.glue(1, 8), 5);
            is("1 + 3 is 4", paper.glue(6, 7), 0);
            paper = of("rect 0 0 3 1;");
            is("2 + 2 is 4", paper.glue(1, 6), 0);
            is("4 and 1 where 2 begins", paper.glue(2, 3), 5);
            is("1 and 4 where 5 ends", paper.glue(4, 5), 5);
            is("refused is no ACT", paper.count(3), 1);
            is("and glues nothing", edges(paper, 3), "-1 6 -1 -1 -1 -1 1 -1");
            is("and leaves the CORNERS", corners(paper, 1), "1 3 4 1 1 2 4 3");
            is("those that are one already", paper.glue(2, 5), 0);
        });
    }

    private void acts() {
        say("choose", "CHOOSE: all that is GLUED is as by a GLUING.", () -> {
            GluedPaper paper = of("rect 0 0 2 1;");
            paper.glue(0, 5);
            yes("the last", paper.choose(4));
            is("glued", edges(paper, 3), "5 4 3 2 1 0");
            yes("the first", paper.choose(0));
            is("nothing of before stays", edges(paper, 3), "1 0 3 2 5 4");
            no("none behind", paper.choose(5));
            no("-1", paper.choose(-1));
            no("far away", paper.choose(MIN));
            no("far away", paper.choose(MAX));
            is("none is no ACT", paper.count(3), 3);
        });
        say("undo", "UNDO takes the last ACT (GLUE, CHOOSE) back", () -> {
            GluedPaper paper = of("rect 0 0 2 1;");
            no("no ACT", paper.undo());
            paper.glue(0, 5);
            paper.choose(0);
            paper.choose(0);
            yes("the second CHOOSE of the same", paper.undo());
            is("glued", edges(paper, 3), "1 0 3 2 5 4");
            yes("CHOOSE", paper.undo());
            is("glued", edges(paper, 3), "5 -1 -1 -1 -1 0");
            yes("GLUE", paper.undo());
            is("glued", edges(paper, 3), "-1 -1 -1 -1 -1 -1");
            is("corners", corners(paper, 2), "1 1 1 1 1 1");
            no("no ACT", paper.undo());
            is("to do again", paper.count(4), 3);
        });
        say("redo", "REDO does it again", () -> {
            GluedPaper paper = of("rect 0 0 2 1;");
            no("nothing", paper.redo());
            paper.glue(0, 5);
            paper.choose(1);
            no("nothing behind an ACT", paper.redo());
            paper.undo();
            paper.undo();
            yes("GLUE", paper.redo());
            is("glued", edges(paper, 3), "5 -1 -1 -1 -1 0");
            yes("CHOOSE", paper.redo());
            is("glued", edges(paper, 3), "1 0 5 4 3 2");
            is("the body is there", paper.lacking(2), 4);
            no("nothing any more", paper.redo());
        });
        say("new act", "a new ACT takes away what could be done again", () -> {
            GluedPaper paper = of("rect 0 0 2 1;");
            paper.glue(0, 5);
            paper.glue(1, 4);
            paper.undo();
            paper.undo();
            is("refused is none", paper.glue(0, 2), 4);
            no("no such GLUING is none", paper.choose(5));
            is("two still", paper.count(4), 2);
            is("a GLUE", paper.glue(1, 2), 0);
            is("none", paper.count(4), 0);
            no("none", paper.redo());
            paper.glue(0, 3);
            paper.undo();
            paper.undo();
            yes("one of them", paper.redo());
            is("the other one still", paper.count(4), 1);
            paper.undo();
            yes("a CHOOSE", paper.choose(0));
            is("none", paper.count(4), 0);
            no("none", paper.redo());
            is("glued", edges(paper, 3), "1 0 3 2 5 4");
        });
        say("forty acts", "40 ACTS are kept at most: the oldest is forgotten.", () -> {
            GluedPaper paper = of("rect 0 0 2 1;");
            for (int i = 0; i < 40; i++) {
                is("ACTS", paper.count(3), i);
                paper.choose(i % 5);
            }
            is("40", paper.count(3), 40);
            for (int i = 0; i < 40; i++) {
                yes("undo", paper.undo());
            }
            no("as it was ahead of the first", paper.undo());
            is("nothing is glued", paper.count(2), 0);
            for (int i = 0; i < 40; i++) {
                yes("redo", paper.redo());
            }
            no("no more", paper.redo());
            is("the 40th", gluingNow(paper), 4);
            paper.choose(1);
            is("40 still", paper.count(3), 40);
            is("the 41st", gluingNow(paper), 1);
            int[] mateOf0 = {1, 1, 3, 5, 5};
            for (int i = 39; i >= 0; i--) {
                yes("undo", paper.undo());
                is("as behind the one before", paper.edge(0, 3), mateOf0[i % 5]);
            }
            no("the oldest is forgotten", paper.undo());
            is("the first stands", gluingNow(paper), 0);
            is("to do again", paper.count(4), 40);
        });
        say("forty with undone", "40 ACTS are kept at most", () -> {
            GluedPaper paper = of("rect 0 0 2 1;");
            for (int i = 0; i < 45; i++) {
                paper.choose(i % 5);
            }
            paper.undo();
            paper.undo();
            is("38 and 2", paper.count(3) * 100 + paper.count(4), 3802);
            is("the 43rd", gluingNow(paper), 2);
            paper.choose(0);
            is("39 and none", paper.count(3) * 100 + paper.count(4), 3900);
            for (int i = 0; i < 39; i++) {
                yes("undo", paper.undo());
            }
            no("no more", paper.undo());
            is("the fifth stands", gluingNow(paper), 4);
        });
    }

    /** Which GLUING of the two squares is GLUED now. */
    private static int gluingNow(GluedPaper paper) {
        String glued = edges(paper, 3);
        for (int i = 0; i < OF_TWO.length; i++) {
            if (OF_TWO[i].equals(glued)) {
                return i;
            }
        }
        return NONE;
    }
}
