/** Boundaries of the BODY, of WAYS, of UNFOLDINGS and MARKS: promises 13 to 23. */
final class BoundaryBody extends Sentences {
    private static final String TEE = "rect 0 0 3 1;cell 1 1;";
    private static final String LONG_TEE = "rect 0 0 3 1;cell 1 1;cell 1 2;";
    /** A body (gluing 4) on which the closed way nearest to 144 has the square 164. */
    private static final String TOO_FAR_ROUND = "cell 4 0;cell 5 0;rect 0 1 5 1;cell 0 2;";
    /** A body (gluing 1) on which CELL 3's ROUND is 144. */
    private static final String AS_FAR_ROUND = "cell 1 0;cell 1 1;rect 0 2 6 1;";

    /** BODY of each GLUING of ten squares in a row, as a model apart from this project answered. */
    private static final int[] TEN_UPWARDS = {0, 1, 2, 3, 4, 5, 2, 3, 0, 5, 10, 10, 12, 13, 12, 10, 12, 13, 12, 10, 12, 13, 12,
        10, 10, 13, 12, 10, 10, 12, 12, 10, 10, 12, 13, 0, 5, 2, 3, 4, 5, 2, 3, 0, 1};
    private static final int[] TEN_EASTWARDS = {0, 0, 2, 3, 2, 5, 6, 0, 2, 3, 2, 0, 12, 13, 2, 3, 2, 0, 0, 5, 6, 3, 2,
        0, 0, 2, 26, 13, 26, 5, 12, 5, 26, 2, 0, 0, 2, 3, 13, 6, 13, 6, 42, 26, 42};
    /** TREES and NETS of each body of eight squares in a row, from there, too. */
    private static final int[] EIGHT_TREES = {2352, 2048, 816, 2048, 2440, 2544, 2048, 816, 2048, 2352, 2440, 2898, 816, 2048, 2352,
        2048, 1280, 2898, 1280, 2440, 2440, 1280, 2048, 2352, 2048, 816, 2898, 2898, 2544, 128, 1280, 128};
    private static final int[] EIGHT_NETS = {64, 62, 31, 62, 239, 300, 62, 31, 62, 64, 239, 322, 31, 62, 64,
        62, 151, 322, 151, 239, 239, 151, 62, 64, 62, 31, 322, 322, 300, 36, 151, 36};

    BoundaryBody() {
        bodies();
        turns();
        alike();
        ways();
        bestWays();
        farthest();
        unfoldings();
        marks();
    }

    private void bodies() {
        say("body there", "The BODY is there if all is GLUED.", () -> {
            GluedPaper paper = of("rect 0 0 2 1;");
            is("nothing", bodyAnswers(paper), "0 -1 -1 -1 -1 -1");
            paper.glue(0, 5);
            paper.glue(1, 4);
            is("all but one pair", bodyAnswers(paper), "0 -1 -1 -1 -1 -1");
            throwsNone("shortest", () -> paper.shortest(0, 0, 0));
            throwsNone("round", () -> paper.round(0, 0));
            paper.glue(2, 3);
            is("all", bodyAnswers(paper), "1 2 0 0 1 2");
            is("shortest", paper.shortest(0, 0, 0), 0);
            paper.undo();
            is("one pair less", bodyAnswers(paper), "0 -1 -1 -1 -1 -1");
            paper.choose(1);
            is("all by a GLUING", bodyAnswers(paper), "1 0 1 0 1 4");
            read(paper, "cell 0 0;");
            is("a new FIGURE", bodyAnswers(paper), "0 -1 -1 -1 -1 -1");
        });
        say("beyond", "BEYOND a SIDE of a CELL is the CELL behind it, with its SIDE", () -> {
            GluedPaper paper = body("rect 0 0 2 1;", 4);
            // 0 lies on 5, 1 on 4, 2 on 3; between the two CELLS nothing is GLUED.
            int[] cells = {0, 1, 1, 0, 0, 1, 1, 0};
            int[] sides = {3, 3, 0, 0, 2, 2, 1, 1};
            for (int i = 0; i < 8; i++) {
                is("CELL", paper.beyond(i / 4, i % 4, 0), cells[i]);
                is("SIDE", paper.beyond(i / 4, i % 4, 1), sides[i]);
            }
            for (String text : new String[] {"rect 0 0 3 2;cell 1 2;", OPEN_RING}) {
                GluedPaper any = body(text, 0);
                for (int i = 0; i < any.count(0) * 4; i++) {
                    int cell = any.beyond(i / 4, i % 4, 0);
                    int side = any.beyond(i / 4, i % 4, 1);
                    is("and back", any.beyond(cell, side, 0) * 4 + any.beyond(cell, side, 1), i);
                }
            }
        });
    }

    /** The body's lacking(3), beyond(0, 0, 0), a way, the farthest CELL and TREES, behind whether it is there. */
    private static String bodyAnswers(GluedPaper paper) {
        return paper.count(5) + " " + paper.lacking(3) + " " + paper.beyond(0, 0, 0) + " " + paper.way(0, 0, 0, 0) + " "
            + paper.farthest(0) + " " + paper.nets(0);
    }

    private void turns() {
        say("turn", "TURN of a CELL's corner (behind its SIDE s, towards SIDE s + 1)", () -> {
            GluedPaper paper = body("rect 0 0 2 1;", 4);
            int[] due = {3, 3, 3, 1, 3, 1, 3, 3};
            for (int i = 0; i < 8; i++) {
                is("TURN behind SIDE " + i % 4 + " of " + i / 4, paper.beyond(i / 4, i % 4, 2), due[i]);
            }
            paper = body("rect 0 0 2 2;", 0);
            is("inside, north-east of 0", paper.beyond(0, 1, 2), 4);
            is("inside, south-west of 3", paper.beyond(3, 3, 2), 4);
        });
        say("turn each time", "how many CELLS (each time one comes to it) are round it", () -> {
            GluedPaper paper = body("cell 0 0;", 0);
            is("one CELL once", paper.beyond(0, 0, 2), 1);
            is("one CELL twice", paper.beyond(0, 1, 2), 2);
            is("one CELL once", paper.beyond(0, 2, 2), 1);
            is("one CELL twice", paper.beyond(0, 3, 2), 2);
            paper = body("rect 0 0 2 1;", 0);
            is("two CELLS, four times", paper.beyond(0, 3, 2), 4);
        });
        say("lacks", "it LACKS 4 less that", () -> {
            GluedPaper paper = body("cell 0 0;", 0);
            is("3", paper.lacking(3), 2);
            is("2", paper.lacking(2), 1);
            is("1", paper.lacking(1), 0);
            paper = body("rect 0 0 2 1;", 0);
            is("4 quarters lack nothing: 2 and 1, 1 are left", paper.lacking(1) * 100 + paper.lacking(2) * 10 + paper.lacking(3), 12);
            is("a cube's", cube().lacking(1), 8);
            is("0 is none", cube().lacking(0), NONE);
            is("4 is none", cube().lacking(4), NONE);
        });
        say("lacks together", "All LACKS are 8 together.", () -> {
            for (String text : new String[] {"cell 0 0;", CROSS, OPEN_RING, "rect 0 0 5 2;", TOO_FAR_ROUND}) {
                GluedPaper paper = of(text);
                int all = paper.gluings();
                for (int i = 0; i < all; i++) {
                    paper.choose(i);
                    is(text + " " + i, paper.lacking(1) + 2 * paper.lacking(2) + 3 * paper.lacking(3), 8);
                }
            }
        });
    }

    private void alike() {
        say("same seen from outside", "if CELLS can be given to CELLS and SIDES to SIDES so that what is BEYOND fits, all as seen from outside", () -> {
            GluedPaper paper = of("rect 0 0 2 1;");
            // Half a turn makes 3 of 0 and 4 of 2; their LACKS tell the others apart.
            int[] kind = {0, 1, 2, 0, 2};
            for (int i = 0; i < 25; i++) {
                is(i / 5 + " and " + i % 5, paper.same(i / 5, i % 5), kind[i / 5] == kind[i % 5] ? 1 : 0);
            }
            // Each CELL lies by CELLS like those of the other body, but not by the SAME ones: their TREES are not as many.
            paper = of("rect 0 0 2 1;rect 0 1 4 1;");
            is("0 and 1", paper.same(0, 1), 0);
            paper.choose(0);
            is("TREES of 0", paper.nets(0), treesByBeyond(paper));
            int trees = paper.nets(0);
            paper.choose(1);
            is("TREES of 1", paper.nets(0), treesByBeyond(paper));
            is("unlike", paper.nets(0) == trees ? 1 : 0, 0);
            for (String text : new String[] {TEE, LONG_TEE, CROSS, OPEN_RING, "rect 0 0 2 5;",
                    "rect 0 0 4 2;less 0 1;rect 4 0 1 3;"}) {
                sameIfTheyFit(text);
            }
        });
        say("same mirrored", "or all mirrored", () -> {
            // South EDGE 0 of both T's goes to south EDGE 2, and so on the other way round.
            for (String text : new String[] {TEE, LONG_TEE}) {
                int all = of(text).gluings();
                is("gluings of " + text, all, 12);
                int apart = 0;
                for (int i = 0; i < all; i++) {
                    int image = mirrorImage(text, i);
                    is("the mirror image of " + i + " is the SAME", of(text).same(i, image), 1);
                    apart += image == i ? 0 : 1;
                }
                is("most have another one", apart >= 10 ? 1 : 0, 1);
            }
            // Both have two corners that lack 3 and two that lack 1, but these lie elsewhere.
            is("7 and 8", of(TEE).same(7, 8), 0);
        });
        say("same arguments", "Whether the BODIES of two GLUINGS are the SAME: 1 or 0; NONE: others.", () -> {
            GluedPaper paper = of("rect 0 0 2 1;");
            is("itself", paper.same(4, 4), 1);
            is("-1", paper.same(-1, 0), NONE);
            is("-1 behind", paper.same(0, -1), NONE);
            is("5", paper.same(5, 0), NONE);
            is("5 behind", paper.same(0, 5), NONE);
            is("twice the same that is none", paper.same(5, 5), NONE);
            is("far away", paper.same(MIN, MAX), NONE);
            paper.glue(0, 1);
            is("whatever is GLUED", paper.same(0, 3), 1);
        });
        say("body of", "BODY of a GLUING: the least GLUING whose BODY is the SAME.", () -> {
            GluedPaper paper = of(TEE);
            for (int i = 0; i < 12; i++) {
                int least = 0;
                while (paper.same(i, least) == 0) {
                    least++;
                }
                is("of " + i, paper.bodyOf(i), least);
            }
            is("the first is its own", paper.bodyOf(0), 0);
            is("-1", paper.bodyOf(-1), NONE);
            is("12", paper.bodyOf(12), NONE);
            is("far away", paper.bodyOf(MAX), NONE);
            is("none at all", of("rect 0 0 1 4;rect 2 0 1 4;cell 1 3;").bodyOf(0), NONE);
        });
        say("bodies", "BODIES: how many unlike ones (with 300 GLUINGS at most).", () -> {
            is("one", new GluedPaper().bodies(), 1);
            is("two CELLS", of("rect 0 0 2 1;").bodies(), 3);
            is("the cross", of(CROSS).bodies(), 5);
            is("no GLUING, no BODY", of("rect 0 0 1 4;rect 2 0 1 4;cell 1 3;").bodies(), 0);
            GluedPaper paper = of("rect 0 0 10 1;");
            is("with the most GLUINGS that there are", paper.gluings(), 45);
            int unlike = 0;
            for (int i = 0; i < 45; i++) {
                unlike += paper.bodyOf(i) == i ? 1 : 0;
            }
            is("as many as are their own", paper.bodies(), unlike);
            // All 45, upwards and eastwards: only the last of ten CELLS tell some of these from others.
            for (int way = 0; way < 2; way++) {
                paper = of(way == 0 ? "rect 0 0 1 10;" : "rect 0 0 10 1;");
                is("nine unlike", paper.bodies(), 9);
                for (int i = 0; i < 45; i++) {
                    is("of ten in a row, " + i, paper.bodyOf(i), (way == 0 ? TEN_UPWARDS : TEN_EASTWARDS)[i]);
                }
            }
        });
    }

    /** same() of all pairs of a figure's GLUINGS against a search for CELLS and SIDES that fit. */
    private void sameIfTheyFit(String text) {
        GluedPaper paper = of(text);
        int all = paper.gluings();
        int[][] behind = new int[all][];
        for (int i = 0; i < all; i++) {
            behind[i] = behindSides(body(text, i));
        }
        for (int i = 0; i < all; i++) {
            paper = of(text);
            for (int k = 0; k < all; k++) {
                boolean fit = false;
                for (int place = 0; place < behind[k].length && !fit; place++) {
                    fit = fits(behind[i], behind[k], place, 1) || fits(behind[i], behind[k], place, 3);
                }
                is(text + " " + i + " and " + k, paper.same(i, k), fit ? 1 : 0);
            }
        }
    }

    /** BEYOND each CELL * 4 + SIDE. */
    private static int[] behindSides(GluedPaper paper) {
        int[] behind = new int[paper.count(0) * 4];
        for (int i = 0; i < behind.length; i++) {
            behind[i] = paper.beyond(i / 4, i % 4, 0) * 4 + paper.beyond(i / 4, i % 4, 1);
        }
        return behind;
    }

    /** Whether all fits if SIDE 0 of CELL 0 is given to such a place, the SIDES going on by 1, mirrored by 3. */
    private static boolean fits(int[] body, int[] other, int place, int step) {
        int[] given = new int[body.length];
        java.util.Arrays.fill(given, -1);
        java.util.ArrayDeque<Integer> next = new java.util.ArrayDeque<>();
        given[0] = place;
        next.add(0);
        while (!next.isEmpty()) {
            int from = next.remove();
            int to = given[from];
            int[] sides = {from / 4 * 4 + (from + 1) % 4, body[from]};
            int[] dues = {to / 4 * 4 + (to + step) % 4, other[to]};
            for (int i = 0; i < 2; i++) {
                if (given[sides[i]] == -1) {
                    given[sides[i]] = dues[i];
                    next.add(sides[i]);
                } else if (given[sides[i]] != dues[i]) {
                    return false;
                }
            }
        }
        return true;
    }

    /** The GLUING of a T that is the mirror image of one, EDGE i being EDGE 2 - i. */
    private int mirrorImage(String text, int gluing) {
        GluedPaper paper = of(text);
        String[] mates = partners(paper, gluing).split(" ");
        int edges = mates.length;
        StringBuilder image = new StringBuilder();
        for (int i = 0; i < edges; i++) {
            int mate = (edges + 2 - Integer.parseInt(mates[(edges + 2 - i) % edges])) % edges;
            image.append(i == 0 ? "" : " ").append(mate);
        }
        int all = paper.gluings();
        for (int i = 0; i < all; i++) {
            if (partners(paper, i).equals(image.toString())) {
                return i;
            }
        }
        return NONE;
    }

    private void ways() {
        say("way bounds", "straight by dx, dy (each -12 to 12", () -> {
            GluedPaper paper = body("rect 0 0 2 1;", 1);
            // On the front and the back of a square each step leads to the other CELL.
            for (int by = -14; by <= 14; by++) {
                int due = by < -12 || by > 12 ? NONE : Math.abs(by) % 2;
                is("dx " + by, paper.way(0, by, 0, 0), due);
                is("dy " + by, paper.way(0, 0, by, 0), due);
            }
            is("both at their ends", paper.way(0, 12, 11, 0), 1);
            is("both at their ends", paper.way(0, -11, -12, 0), 1);
            is("one beyond", paper.way(0, 13, 12, 0), NONE);
            is("the other one beyond", paper.way(0, 12, -13, 0), NONE);
            is("far away", paper.way(0, MIN, 0, 0), NONE);
            is("far away", paper.way(0, 0, MAX, 0), NONE);
            is("nowhere", paper.way(1, 0, 0, 0), 1);
            is("nowhere, not turned", paper.way(1, 0, 0, 1), 0);
        });
        say("way towards", "dx to its SIDE 1, dy to its SIDE 2", () -> {
            GluedPaper paper = body("rect 0 0 3 3;cell 3 1;", 0);
            is("1", paper.way(4, 1, 0, 0), 5);
            is("3", paper.way(4, -1, 0, 0), 3);
            is("2", paper.way(4, 0, 1, 0), 8);
            is("0", paper.way(4, 0, -1, 0), 1);
            is("laid flat one behind the other", paper.way(3, 3, 0, 0), 6);
        });
        say("way corner", "through a corner only if that LACKS nothing (else there is none)", () -> {
            GluedPaper paper = body("rect 0 0 2 2;", 0);
            is("inside", paper.way(0, 1, 1, 0), 3);
            is("inside", paper.way(3, -1, -1, 0), 0);
            is("inside", paper.way(1, -1, 1, 0), 2);
            is("inside", paper.way(2, 1, -1, 0), 1);
            paper = body("rect 0 0 2 1;", 0);
            // Corners 0, 2 and 4 are one, with 4 QUARTERS.
            is("that is whole by what is GLUED", paper.way(0, -1, -1, 0), 1);
            is("and the turn there", paper.way(0, -1, -1, 1), 1);
            is("that lacks 3", paper.way(0, -1, 1, 0), NONE);
            is("that lacks 3", paper.way(1, 1, 1, 0), NONE);
            is("that lacks 2", paper.way(0, 1, -1, 0), NONE);
            is("on the way, not at its end", paper.way(0, -2, 2, 0), NONE);
            is("on the way, not at its end", paper.way(0, -3, 3, 1), NONE);
            // One step west is TURNED by 1; then north-west is the corner behind SIDE 3, south-west that behind 0.
            is("a whole one, TURNED", paper.way(0, -3, 1, 0), 1);
            is("the turn behind it", paper.way(0, -3, 1, 1), 1);
            is("one that lacks, TURNED", paper.way(0, -3, -1, 0), NONE);
            is("past it", paper.way(0, -2, 1, 0) != NONE && paper.way(0, -1, 2, 0) != NONE ? 1 : 0, 1);
            for (String text : new String[] {"rect 0 0 2 2;", TEE, "rect 0 0 3 2;"}) {
                int all = of(text).gluings();
                for (int i = 0; i < all; i++) {
                    cornerStepsFit(text, i);
                }
            }
            GluedPaper whole = cube();
            is("at its third corner", whole.way(3, 9, 3, 0), NONE);
            is("at no corner", whole.way(3, 9, 2, 0) != NONE ? 1 : 0, 1);
        });
        say("way turned", "the SIDE that lies towards SIDE g there is SIDE g + TURNED (modulo 4)", () -> {
            GluedPaper paper = body("cell 0 0;", 0);
            // 0 lies on 1, 2 on 3: eastwards SIDE 0 is entered, which then lies towards SIDE 3.
            is("east", paper.way(0, 1, 0, 1), 1);
            is("west: SIDE 2 lies towards SIDE 1", paper.way(0, -1, 0, 1), 1);
            is("north: SIDE 3 lies towards SIDE 0", paper.way(0, 0, 1, 1), 3);
            is("south: SIDE 1 lies towards SIDE 2", paper.way(0, 0, -1, 1), 3);
            is("back again", paper.way(0, 2, 0, 1), 0);
            paper = body("rect 0 0 2 1;", 1);
            is("upside down", paper.way(0, 0, 1, 1), 2);
            is("upside down twice", paper.way(0, 0, 2, 1), 0);
        });
        say("way others", "A WAY, what 0: the CELL where it ends, 1: TURNED; NONE: others, no BODY, there is none.", () -> {
            GluedPaper paper = body("rect 0 0 2 1;", 1);
            is("CELL -1", paper.way(-1, 1, 0, 0), NONE);
            is("CELL 2", paper.way(2, 1, 0, 0), NONE);
            is("far away", paper.way(MAX, 1, 0, 1), NONE);
            is("what -1", paper.way(0, 1, 0, -1), NONE);
            is("what 2", paper.way(0, 1, 0, 2), NONE);
            is("there is none", paper.way(0, 1, 1, 1), NONE);
            paper.undo();
            is("no BODY", paper.way(0, 1, 0, 0), NONE);
            is("no BODY, not even nowhere", paper.way(0, 0, 0, 1), NONE);
        });
    }

    /** From each CELL one step aslant in each of the four directions: over the corner behind SIDE s, or none. */
    private void cornerStepsFit(String text, int gluing) {
        GluedPaper paper = body(text, gluing);
        int[] dx = {1, 1, -1, -1};
        int[] dy = {-1, 1, 1, -1};
        for (int i = 0; i < paper.count(0) * 4; i++) {
            int cell = i / 4;
            int side = i % 4;
            int across = paper.beyond(cell, side, 0);
            // Whole: on from the CELL that lies behind this one, out of the SIDE that leads away round the corner.
            int due = paper.beyond(cell, side, 2) != 4 ? NONE
                : paper.beyond(across, (paper.beyond(cell, side, 1) + 3) % 4, 0);
            is(text + " " + gluing + ": " + cell + ", " + side, paper.way(cell, dx[side], dy[side], 0), due);
        }
    }

    /** {square, how many, dx, dy} of the WAYS that way() tells, the least square first that is at least so great; null: none. */
    private int[] tried(String text, int gluing, int from, int to, boolean closed) {
        int[] best = null;
        for (int dx = -12; dx <= 12; dx++) {
            GluedPaper paper = body(text, gluing);
            for (int dy = -12; dy <= 12; dy++) {
                int square = dx * dx + dy * dy;
                boolean ends = paper.way(from, dx, dy, 0) == to && (!closed || square > 0 && paper.way(from, dx, dy, 1) == 0);
                if (ends && square <= 144 && (best == null || square < best[0])) {
                    best = new int[] {square, 0, dx, dy};
                }
                if (ends && best != null && square == best[0]) {
                    best[1]++;
                }
            }
        }
        return best;
    }

    private void bestWays() {
        say("shortest least", "the least dx * dx + dy * dy (144 at most) of a WAY; how many such", () -> {
            String[] texts = {"cell 0 0;", "rect 0 0 2 1;", "rect 0 0 2 2;", TEE, CROSS, TOO_FAR_ROUND};
            int[] gluings = {1, 0, 0, 7, 3, 2};
            for (int i = 0; i < texts.length; i++) {
                GluedPaper paper = body(texts[i], gluings[i]);
                int cells = paper.count(0);
                for (int to = 0; to < cells; to++) {
                    int[] due = tried(texts[i], gluings[i], cells / 2, to, false);
                    for (int what = 0; what < 4; what++) {
                        is("what " + what, paper.shortest(cells / 2, to, what), due[what]);
                    }
                }
            }
        });
        say("shortest to itself", "SHORTEST from CELL to CELL", () -> {
            GluedPaper paper = cube();
            for (int cell = 0; cell < 6; cell++) {
                is("nowhere", paper.shortest(cell, cell, 0), 0);
                is("once", paper.shortest(cell, cell, 1), 1);
                is("dx", paper.shortest(cell, cell, 2), 0);
                is("dy", paper.shortest(cell, cell, 3), 0);
            }
        });
        say("shortest first", "the first (by dx, then by dy)", () -> {
            GluedPaper paper = body("rect 0 0 2 1;", 1);
            is("four", paper.shortest(0, 1, 1), 4);
            is("-1, 0 is ahead of 0, -1", paper.shortest(0, 1, 2), -1);
            is("dy", paper.shortest(0, 1, 3), 0);
            paper = body("rect 0 0 2 1;", 0);
            is("two of the same dx or so", paper.shortest(0, 1, 1), 2);
            is("0, -1 is ahead of 1, 0", paper.shortest(0, 1, 2), 0);
            is("dy", paper.shortest(0, 1, 3), -1);
            paper = body("rect 0 0 2 2;", 0);
            is("two across", paper.shortest(0, 3, 1), 2);
            is("-1, -1 is ahead of 1, 1", paper.shortest(0, 3, 2) * 10 + paper.shortest(0, 3, 3), -11);
            paper = body("rect 0 0 1 3;", 2);
            int[] due = tried("rect 0 0 1 3;", 2, 0, 2, false);
            is("dx", paper.shortest(0, 2, 2), due[2]);
            is("dy", paper.shortest(0, 2, 3), due[3]);
        });
        say("shortest others", "SHORTEST, what 0: the square of its length, 1: how many, 2, 3: dx, dy of the first. NoSuchElementException: others, no BODY, there is none.", () -> {
            GluedPaper paper = body("rect 0 0 2 1;", 1);
            throwsNone("what -1", () -> paper.shortest(0, 1, -1));
            throwsNone("what 4", () -> paper.shortest(0, 1, 4));
            throwsNone("far away", () -> paper.shortest(0, 1, MAX));
            throwsNone("from -1", () -> paper.shortest(-1, 1, 0));
            throwsNone("from 2", () -> paper.shortest(2, 1, 0));
            throwsNone("to -1", () -> paper.shortest(0, -1, 0));
            throwsNone("to 2", () -> paper.shortest(0, 2, 0));
            throwsNone("to 10", () -> paper.shortest(0, 10, 0));
            throwsNone("to far away", () -> paper.shortest(0, MAX, 0));
            throwsNone("from far away", () -> paper.shortest(MIN, MAX, 0));
            is("an exception leaves all", paper.shortest(0, 1, 1), 4);
            paper.undo();
            throwsNone("no BODY", () -> paper.shortest(0, 1, 0));
            throwsNone("no BODY, to itself", () -> paper.shortest(0, 0, 0));
        });
        say("round above 0", "ROUND: the least above 0", () -> {
            GluedPaper paper = body("cell 0 0;", 0);
            is("not nowhere", paper.round(0, 0), 4);
            is("four", paper.round(0, 1), 4);
            is("dx", paper.round(0, 2), -2);
            is("dy", paper.round(0, 3), 0);
        });
        say("round 144", "(144 at most, too)", () -> {
            GluedPaper paper = body(AS_FAR_ROUND, 1);
            is("144", paper.round(3, 0), 144);
            is("four of them", paper.round(3, 1), 4);
            is("dx", paper.round(3, 2), -12);
            is("dy", paper.round(3, 3), 0);
            GluedPaper far = body(TOO_FAR_ROUND, 4);
            boolean closed = false;
            for (int turn = 0; turn < 4; turn++) {
                int dx = turn < 2 ? 10 : 8;
                int dy = (turn % 2 == 0 ? 1 : -1) * (18 - dx);
                closed |= far.way(1, dx, dy, 0) == 1 && far.way(1, dx, dy, 1) == 0;
            }
            yes("there is one of 164", closed);
            throwsNone("which is too far", () -> far.round(1, 0));
            throwsNone("how many then", () -> far.round(1, 1));
        });
        say("round closed", "of a WAY that ends in the CELL where it began, TURNED by 0", () -> {
            String[] texts = {"cell 0 0;", "rect 0 0 2 1;", "rect 0 0 3 1;", TEE, CROSS, AS_FAR_ROUND};
            int[] gluings = {1, 0, 1, 7, 3, 1};
            for (int i = 0; i < texts.length; i++) {
                GluedPaper paper = body(texts[i], gluings[i]);
                int cell = paper.count(0) / 2;
                int[] due = tried(texts[i], gluings[i], cell, cell, true);
                for (int what = 0; what < 4; what++) {
                    is("what " + what, paper.round(cell, what), due[what]);
                }
            }
        });
        say("round others", "ROUND, what as of shortest(). NoSuchElementException: others, no BODY, there is none.", () -> {
            GluedPaper paper = body("rect 0 0 2 1;", 1);
            throwsNone("what -1", () -> paper.round(0, -1));
            throwsNone("what 4", () -> paper.round(0, 4));
            throwsNone("CELL -1", () -> paper.round(-1, 0));
            throwsNone("CELL 2", () -> paper.round(2, 0));
            throwsNone("far away", () -> paper.round(MAX, MIN));
            is("an exception leaves all", paper.round(1, 0), 4);
            paper.undo();
            throwsNone("no BODY", () -> paper.round(0, 0));
            throwsNone("there is none", () -> body("rect 0 0 1 8;", 1).round(0, 0));
        });
    }

    private void farthest() {
        say("farthest", "FARTHEST: the CELL to which the SHORTEST is longest", () -> {
            GluedPaper paper = cube();
            int[] other = {3, 5, 4, 0, 2, 1};
            for (int cell = 0; cell < 6; cell++) {
                is("the other face", paper.farthest(cell), other[cell]);
            }
            is("itself, there is no other", body("cell 0 0;", 1).farthest(0), 0);
        });
        say("farthest first", "of equal ones the first.", () -> {
            // On a strip of three the middle one has both others beside it.
            is("0 and 2 are as far", body("rect 0 0 3 1;", 7).farthest(1), 0);
            for (String text : new String[] {"rect 0 0 3 1;", "rect 0 0 2 2;", TEE, "rect 0 0 5 2;"}) {
                int all = of(text).gluings();
                for (int i = 0; i < all; i++) {
                    GluedPaper paper = body(text, i);
                    int first = 0;
                    for (int to = 1; to < paper.count(0); to++) {
                        first = paper.shortest(1, to, 0) > paper.shortest(1, first, 0) ? to : first;
                    }
                    is(text + " " + i, paper.farthest(1), first);
                }
            }
        });
        say("farthest others", "FARTHEST of a CELL; NONE: others, no BODY.", () -> {
            GluedPaper paper = body("rect 0 0 2 1;", 1);
            is("-1", paper.farthest(-1), NONE);
            is("2", paper.farthest(2), NONE);
            is("far away", paper.farthest(MIN), NONE);
            is("the last", paper.farthest(1), 0);
            paper.undo();
            is("no BODY", paper.farthest(0), NONE);
        });
    }

    /** How many CUT TREES there are by what is BEYOND, as a determinant (Kirchhoff). */
    private static long treesByBeyond(GluedPaper paper) {
        int cells = paper.count(0);
        double[][] m = new double[cells][cells];
        for (int i = 0; i < cells * 4; i++) {
            int other = paper.beyond(i / 4, i % 4, 0);
            m[i / 4][i / 4] += other == i / 4 ? 0 : 1;
            m[i / 4][other] -= other == i / 4 ? 0 : 1;
        }
        double product = 1;
        for (int k = 1; k < cells; k++) {
            product *= m[k][k];
            for (int row = k + 1; row < cells; row++) {
                double part = m[row][k] / m[k][k];
                for (int column = k; column < cells; column++) {
                    m[row][column] -= part * m[k][column];
                }
            }
        }
        return Math.round(product);
    }

    private void unfoldings() {
        say("cut cells", "A CUT TREE leaves CELLS (8 at most)", () -> {
            GluedPaper eight = body("rect 0 0 8 1;", 0);
            is("8: TREES", eight.nets(0), treesByBeyond(eight));
            is("8: GOOD", eight.nets(1), eight.nets(0));
            is("8: NETS", eight.nets(2) > 0 ? 1 : 0, 1);
            GluedPaper nine = body("rect 0 0 9 1;", 0);
            is("9", nine.nets(0), NONE);
            is("9", nine.nets(1), NONE);
            is("9", nine.nets(2), NONE);
            is("10", body("rect 0 0 5 2;", 0).nets(0), NONE);
            is("1", body("cell 0 0;", 1).nets(0), 1);
            is("1", body("cell 0 0;", 1).nets(2), 1);
        });
        say("cut one way", "hanging together by some SIDES, by one way each: an UNFOLDING", () -> {
            for (String text : new String[] {"rect 0 0 2 1;", "rect 0 0 3 1;", "rect 0 0 2 2;", TEE, "rect 0 0 2 1;cell 0 1;", "rect 0 0 4 2;"}) {
                int all = of(text).gluings();
                for (int i = 0; i < all; i++) {
                    GluedPaper paper = body(text, i);
                    is(text + " " + i, paper.nets(0), treesByBeyond(paper));
                }
            }
            is("a cube", cube().nets(0), 384);
        });
        say("cut each pair once", "(each pair of SIDES that lie on one another once)", () -> {
            is("front and back: one of four pairs", body("rect 0 0 2 1;", 1).nets(0), 4);
            is("two of the SIDES lie on their own CELL", body("rect 0 0 2 1;", 0).nets(0), 2);
            is("one CELL: none is chosen, once", body("cell 0 0;", 0).nets(0), 1);
        });
        say("good", "GOOD: those not OVER", () -> {
            // With 8 CELLS at most none is ever OVER itself: all figures were tried.
            for (int gluing = 0; gluing < 26; gluing++) {
                GluedPaper paper = body("rect 0 0 4 2;", gluing);
                is("gluing " + gluing, paper.nets(1), paper.nets(0));
            }
            is("a cube's", cube().nets(1), 384);
        });
        say("nets unlike", "NETS: unlike ones of these, as figures, turned and mirrored as one likes.", () -> {
            is("a cube's are eleven (twenty if mirrored ones were unlike)", cube().nets(2), 11);
            is("two squares", body("rect 0 0 2 1;", 1).nets(2), 1);
            is("three", body("rect 0 0 3 1;", 7).nets(2), 2);
            is("all five of four squares", body("rect 0 0 4 1;", 2).nets(2), 5);
            is("on another body", body("rect 0 0 4 1;", 9).nets(2), 3);
            for (int i = 0; i < 32; i++) {
                GluedPaper paper = body("rect 0 0 8 1;", i);
                is("eight in a row, TREES, " + i, paper.nets(0), EIGHT_TREES[i]);
                is("eight in a row, NETS, " + i, paper.nets(2), EIGHT_NETS[i]);
            }
        });
        say("nets others", "What 0: TREES, 1: GOOD, 2: NETS; NONE: another what, no BODY, more than 8 CELLS.", () -> {
            GluedPaper paper = body("rect 0 0 2 1;", 1);
            is("-1", paper.nets(-1), NONE);
            is("3", paper.nets(3), NONE);
            is("far away", paper.nets(MIN), NONE);
            is("0", paper.nets(0), 4);
            is("2", paper.nets(2), 1);
            paper.undo();
            is("no BODY", paper.nets(0), NONE);
            paper.choose(0);
            is("of the BODY as it is now", paper.nets(0), 2);
        });
    }

    private void marks() {
        say("mark numbers", "MARKS 0 to 3", () -> {
            GluedPaper paper = new GluedPaper();
            for (int mark = -1; mark <= 4; mark++) {
                is("back to " + mark + ", on which nothing is", paper.mark(mark, true) ? 1 : 0, 0);
                is("laying " + mark, paper.mark(mark, false) ? 1 : 0, mark >= 0 && mark <= 3 ? 1 : 0);
                is("back to " + mark, paper.mark(mark, true) ? 1 : 0, mark >= 0 && mark <= 3 ? 1 : 0);
            }
            no("far away", paper.mark(MIN, false));
            no("far away", paper.mark(MAX, true));
        });
        say("mark holds", "hold the FIGURE and what is GLUED", () -> {
            GluedPaper paper = of("rect 3 4 2 1;");
            paper.glue(0, 5);
            for (int mark = 0; mark < 4; mark++) {
                paper.mark(mark, false);
                paper.glue(mark == 1 ? 2 : 1, mark == 1 ? 3 : 4);
            }
            read(paper, "cell 0 0;");
            put(paper, "abc");
            String[] due = {"5 -1 -1 -1 -1 0", "5 4 -1 -1 1 0", "5 4 3 2 1 0", "5 4 3 2 1 0"};
            for (int mark = 3; mark >= 0; mark--) {
                yes("back to " + mark, paper.mark(mark, true));
                is("squares", squares(paper), "3,4 4,4");
                is("glued", edges(paper, 3), due[mark]);
                is("pairs", paper.count(2), mark == 0 ? 1 : mark == 1 ? 2 : 3);
                is("the BODY", paper.count(5), mark < 2 ? 0 : 1);
                is("corners", paper.corner(1, 1), 3);
                is("gluings", paper.gluings(), 5);
                is("the TAPE is as it was", paper.count(6), 3);
            }
            is("what is GLUED later is not on the MARK", paper.glue(1, 2), 0);
            yes("back to 0", paper.mark(0, true));
            is("glued", edges(paper, 3), due[0]);
            paper.choose(0);
            yes("laid once more", paper.mark(0, false));
            paper.undo();
            yes("back to the newer one", paper.mark(0, true));
            is("glued", edges(paper, 3), "1 0 3 2 5 4");
        });
        say("mark forgets acts", "(ACTS are forgotten when one is gone back to).", () -> {
            GluedPaper paper = of("rect 0 0 2 1;");
            paper.glue(0, 5);
            paper.glue(1, 4);
            paper.undo();
            paper.mark(0, false);
            is("laying forgets none", paper.count(3) * 10 + paper.count(4), 11);
            no("a MARK on which nothing is", paper.mark(1, true));
            is("forgets none", paper.count(3) * 10 + paper.count(4), 11);
            yes("back", paper.mark(0, true));
            is("forgotten", paper.count(3) * 10 + paper.count(4), 0);
            no("undo", paper.undo());
            no("redo", paper.redo());
            is("glued as it was", edges(paper, 3), "5 -1 -1 -1 -1 0");
            is("a new ACT", paper.glue(1, 4), 0);
            yes("is taken back", paper.undo());
            is("as the MARK was", edges(paper, 3), "5 -1 -1 -1 -1 0");
        });
    }
}
