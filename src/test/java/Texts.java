import java.util.ArrayList;
import java.util.List;

/** Texts of figures: right ones, and such as are wrong somewhere. */
final class Texts {
    private final Dice dice;
    private final List<String> told = new ArrayList<>();

    Texts(Dice dice) {
        this.dice = dice;
    }

    /** Squares that hang together, one after the other in any order. */
    String grown(int cells) {
        List<int[]> squares = new ArrayList<>();
        squares.add(new int[] {dice.below(16), dice.below(16)});
        for (int tries = 0; squares.size() < cells && tries < 10000; tries++) {
            int[] from = squares.get(dice.below(squares.size()));
            int side = dice.below(4);
            int x = from[0] + (side == 1 ? 1 : side == 3 ? -1 : 0);
            int y = from[1] + (side == 2 ? 1 : side == 0 ? -1 : 0);
            boolean free = x >= 0 && x < 16 && y >= 0 && y < 16;
            for (int[] square : squares) {
                free = free && (square[0] != x || square[1] != y);
            }
            if (free) {
                squares.add(new int[] {x, y});
            }
        }
        StringBuilder text = new StringBuilder();
        for (int[] square : squares) {
            text.append("cell ").append(square[0]).append(blank()).append(square[1]).append(';');
        }
        return text.toString();
    }

    private String blank() {
        String[] blanks = {" ", "\n", "  ", " \n "};
        return blanks[dice.below(dice.once(8) ? 4 : 1)];
    }

    /** Statements of all kinds; most texts have a fault, of any kind. */
    String any() {
        told.clear();
        StringBuilder text = new StringBuilder();
        int statements = dice.from(0, 6);
        if (dice.once(6)) {
            for (int i = dice.from(7, 10); i > 0; i--) {
                text.append("let ").append(name()).append(' ').append(expression(0)).append(';');
            }
        }
        for (int i = 0; i < statements; i++) {
            text.append(blank()).append(statement()).append(';');
        }
        for (int i = dice.once(3) ? dice.from(1, 3) : 0; i > 0; i--) {
            spoil(text);
        }
        return text.toString();
    }

    private void spoil(StringBuilder text) {
        String signs = "()<=+-*;  \nabcell0123456789A!~";
        int place = dice.below(text.length() + 1);
        int how = dice.below(3);
        if (how > 0 && place < text.length()) {
            text.deleteCharAt(place);
        }
        if (how < 2) {
            text.insert(Math.min(place, text.length()), signs.charAt(dice.below(signs.length())));
        }
    }

    private String statement() {
        int kind = dice.below(8);
        if (kind == 0) {
            String name = name();
            String text = "let " + name + " " + expression(0);
            told.add(name);
            return text;
        }
        if (kind <= 2) {
            String name = name();
            String text = "each " + name + " " + dice.below(3) + blank()
                + (dice.once(5) ? expression(0) : "" + dice.from(0, 4));
            told.add(name);
            told.add(name);
            return text + " " + step();
        }
        return step();
    }

    private String step() {
        int kind = dice.below(6);
        if (kind == 0) {
            return "less " + coordinate() + blank() + coordinate();
        }
        if (kind <= 2) {
            return "rect " + coordinate() + blank() + coordinate() + " " + dice.from(dice.once(9) ? 0 : 1, 4)
                + blank() + dice.from(1, 3);
        }
        return "cell " + coordinate() + blank() + coordinate();
    }

    private String coordinate() {
        if (!dice.once(3)) {
            return "" + dice.from(0, 3);
        }
        return dice.once(12) ? "" + dice.from(0, 20) : expression(0);
    }

    private String expression(int within) {
        StringBuilder text = new StringBuilder(part(within));
        for (int i = dice.below(3); i > 0; i--) {
            text.append("+-*".charAt(dice.below(3))).append(part(within));
        }
        return text.toString();
    }

    private String part(int within) {
        int kind = dice.below(10);
        if (kind < 2 && within < 7) {
            return "(" + expression(within + 1) + ")";
        }
        if (kind < 6 && !told.isEmpty()) {
            return told.get(dice.below(told.size()));
        }
        if (dice.once(40)) {
            return name();
        }
        if (dice.once(40)) {
            return "" + dice.from(9990, 10009);
        }
        return "" + dice.below(4);
    }

    private String name() {
        String[] names = {"a", "b", "c", "i", "k", "abcdefgh", "x", "y", "z", "zz", "cells"};
        return dice.once(60) ? "abcdefghi" : dice.once(60) ? "less" : names[dice.below(names.length)];
    }
}
