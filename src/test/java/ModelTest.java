import java.util.ArrayList;
import java.util.List;

/** Long runs of calls on the class and on the model, whose answers have to be the same. */
public final class ModelTest {
    private final GluedPaper paper = new GluedPaper();
    private final PaperModel model = new PaperModel();
    private final Dice dice;
    private final Texts texts;
    private final List<String> run = new ArrayList<>();
    private final boolean slow;
    private boolean wrong;

    private ModelTest(long start) {
        dice = new Dice(start);
        texts = new Texts(dice);
        slow = start % 4 == 0;
    }

    public static void main(String[] args) {
        long first = args.length > 0 ? Long.parseLong(args[0]) : 1;
        long runs = args.length > 1 ? Long.parseLong(args[1]) : 600;
        int failed = 0;
        int[] seen = new int[12];
        for (long start = first; start < first + runs; start++) {
            ModelTest test = new ModelTest(start);
            test.go(seen);
            if (test.wrong) {
                failed++;
                System.out.println("run " + start + ": " + String.join("; ", test.run));
            }
        }
        System.out.println("faults of texts by kind (0: none): " + java.util.Arrays.toString(seen));
        System.out.println((runs - failed) + " runs are as the model's, " + failed + " are not");
        if (failed > 0) {
            System.exit(1);
        }
    }

    private long ask(String name, long... arguments) {
        int call = Calls.number(name);
        long got = Calls.on(paper, call, arguments);
        long due = Calls.on(model, call, arguments);
        run.add(name + java.util.Arrays.toString(arguments) + " = " + got);
        if (got != due) {
            wrong = true;
            run.add("due is " + due);
        }
        return got;
    }

    private void feed(String text) {
        for (int from = 0; from < text.length(); from += 24) {
            ask("feed", Calls.packed(text, from), Calls.packed(text, from + 8), Calls.packed(text, from + 16));
        }
    }

    private void go(int[] seen) {
        for (int i = 0; run.size() < 480 && !wrong; i++) {
            int kind = dice.below(slow ? 40 : 24);
            if (kind == 0 || i == 0 && !dice.once(4)) {
                feed(texts.grown(dice.from(1, slow ? 7 : 9)));
                seen[(int) ask("figure") & 15]++;
            } else if (kind <= 2) {
                feed(dice.once(30) ? texts.any() + texts.any() + texts.any() : texts.any());
                seen[(int) ask("figure") & 15]++;
            } else {
                step(kind % 8);
            }
        }
    }

    private void step(int kind) {
        switch (kind) {
            case 0: case 1: byHand(); break;
            case 2: flat(); break;
            case 3: marksAndCounts(); break;
            case 4: gluings(); break;
            default: body(); break;
        }
    }

    private int edge() {
        return dice.once(20) ? dice.from(-2, 25) : dice.below(Math.max(1, model.count(1)));
    }

    private int cell() {
        return dice.once(20) ? dice.from(-2, 12) : dice.below(Math.max(1, model.count(0)));
    }

    private int gluing() {
        int all = model.gluings();
        return dice.once(20) || all <= 0 ? dice.from(-2, 2001) : dice.below(all);
    }

    private void byHand() {
        int kind = dice.below(12);
        if (kind < 7) {
            int a = edge();
            ask("glue", a, dice.once(3) ? edge() : dice.once(2) ? a + 1 : a + dice.from(-3, 3));
        } else if (kind < 8) {
            ask("choose", gluing());
        } else if (kind < 10) {
            ask("undo");
        } else {
            ask("redo");
        }
    }

    private void flat() {
        ask("cell", cell(), dice.from(-1, 6));
        ask("edge", edge(), dice.from(-1, 4));
        ask("corner", edge(), dice.from(-1, 3));
    }

    private void marksAndCounts() {
        if (dice.once(4)) {
            ask("mark", dice.from(-1, 4), dice.below(2));
        }
        ask("count", dice.from(-1, 7));
    }

    private void gluings() {
        ask("gluings");
        ask("partner", gluing(), edge());
        if (slow || dice.once(4)) {
            ask("same", gluing(), gluing());
        }
        if (slow && dice.once(3)) {
            ask("bodies");
            ask("bodyOf", gluing());
        }
        if (dice.once(3)) {
            ask("choose", gluing());
        }
    }

    private void body() {
        if (model.count(5) == 0 && !dice.once(10)) {
            ask("choose", gluing());
        }
        int kind = dice.below(slow ? 6 : 4);
        if (kind == 0) {
            ask("lacking", dice.from(0, 4));
        } else if (kind == 1) {
            ask("beyond", cell(), dice.once(9) ? dice.from(-1, 4) : dice.below(4), dice.from(-1, 3));
        } else if (kind <= 3) {
            int span = dice.once(9) ? 13 : dice.from(1, 12);
            ask("way", cell(), dice.from(-span, span), dice.from(-span, span), dice.once(9) ? 2 : dice.below(2));
            ask("way", cell(), dice.from(-12, 12), dice.from(-12, 12), dice.once(9) ? -1 : dice.below(2));
        } else if (kind == 4) {
            ask("shortest", cell(), cell(), dice.once(9) ? dice.from(-1, 4) : dice.below(4));
            ask("round", cell(), dice.once(9) ? dice.from(-1, 4) : dice.below(4));
        } else {
            ask("farthest", cell());
            if (model.count(0) <= 6 || model.count(0) > 8 || dice.once(9)) {
                ask("nets", dice.once(9) ? dice.from(-1, 3) : dice.below(3));
            }
        }
    }
}
