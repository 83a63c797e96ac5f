import java.util.Arrays;

/** Calls with any arguments in any state: nothing is thrown but what the document names. */
public final class FuzzTest {
    private FuzzTest() { }

    public static void main(String[] args) {
        int runs = args.length > 0 ? Integer.parseInt(args[0]) : 400;
        int wrong = 0;
        for (int run = 0; run < runs; run++) {
            wrong += go(new Dice(run + 1000)) ? 0 : 1;
        }
        System.out.println((runs - wrong) + " runs threw nothing of their own, " + wrong + " did");
        if (wrong > 0) {
            System.exit(1);
        }
    }

    private static boolean go(Dice dice) {
        GluedPaper paper = new GluedPaper();
        Texts texts = new Texts(dice);
        for (int i = 0; i < 512; i++) {
            int call = dice.below(Calls.NAMES.length);
            long[] arguments = {number(dice), number(dice), number(dice), number(dice)};
            String name = Calls.NAMES[call];
            if (name.equals("feed") && !dice.once(8)) {
                String text = dice.once(2) ? texts.grown(dice.from(1, 10)) : texts.any();
                for (int from = 0; from < text.length() && i < 512; from += 24, i++) {
                    paper.feed(Calls.packed(text, from), Calls.packed(text, from + 8), Calls.packed(text, from + 16));
                }
                call = Calls.number("figure");
            }
            try {
                Calls.on(paper, call, arguments);
            } catch (RuntimeException thrown) {
                System.out.println(name + Arrays.toString(arguments) + " threw " + thrown);
                return false;
            }
        }
        return true;
    }

    private static long number(Dice dice) {
        switch (dice.below(8)) {
            case 0: return dice.from(-13, 30);
            case 1: return Integer.MIN_VALUE + dice.below(3);
            case 2: return Integer.MAX_VALUE - dice.below(3);
            case 3: return (long) dice.below(Integer.MAX_VALUE) << 33 ^ dice.below(Integer.MAX_VALUE);
            default: return dice.below(6);
        }
    }
}
