import java.util.ArrayList;
import java.util.List;

/** For each sentence of BoundaryTest changes of GluedPaper.java, each in one place, that break it. */
final class Mutants {
    record Mutant(String sentence, String text, String instead) { }

    private static final List<Mutant> ALL = new ArrayList<>();

    static {
        tape();
        tokens();
        statements();
        names();
        expressions();
        faults();
        ends();
        rims();
        gluings();
        byHand();
        bodies();
        alike();
        ways();
        bestWays();
        unfoldings();
        marks();
        face();
    }

    private Mutants() { }

    static List<Mutant> all() {
        return ALL;
    }

    private static void breaks(String sentence, String text, String instead) {
        ALL.add(new Mutant(sentence, text, instead));
    }

    private static void tape() {
        breaks("tape full", "MOST_SIGNS = 1000;", "MOST_SIGNS = 999;");
        breaks("tape full", "MOST_SIGNS = 1000;", "MOST_SIGNS = 1001;");
        breaks("tape signs", "sign == 10 || (", "sign == 9 || (");
        breaks("tape signs", "sign == 10 || (", "sign == 13 || sign == 10 || (");
        breaks("tape signs", "sign >= 32 ", "sign >= 33 ");
        breaks("tape signs", "sign >= 32 ", "sign >= 31 ");
        breaks("tape signs", "sign <= 126)", "sign <= 127)");
        breaks("tape signs", "sign <= 126)", "sign < 126)");
        breaks("tape signs", "(bytes >>> shift) & 255L", "(bytes >>> shift) & 127L");
        breaks("tape taken", "tape.length = 0;", "");
        breaks("tape taken", "tape.length = 0;", "tape.length = fault == 0 ? 0 : tape.length;");
        breaks("feed order", "int shift = 56; shift >= 0; shift -= 8", "int shift = 0; shift < 64; shift += 8");
        breaks("feed order", "        tape.put(a);\n        tape.put(b);", "        tape.put(b);\n        tape.put(a);");
        breaks("feed order", "        tape.put(c);\n", "");
        breaks("feed left out", "if (known && length < MOST_SIGNS)", "if (length < MOST_SIGNS)");
        breaks("feed left out", "int shift = 56; shift >= 0;", "int shift = 56; shift >= 0 && length + shift / 8 < MOST_SIGNS;");
    }

    private static void tokens() {
        breaks("token long", "while (at < length && isLetter(signs[at]))", "while (at < length && at < from + 4 && isLetter(signs[at]))");
        breaks("token long", "while (at < length && isDigit(signs[at]))", "while (at < length && at < from + 1 && isDigit(signs[at]))");
        breaks("token blanks", "sign == 10 || sign == 32;", "sign == 32;");
        breaks("token blanks", "sign == 10 || sign == 32;", "sign == 10;");
        breaks("word letters", "sign <= 'z'", "sign < 'z'");
        breaks("word letters", "sign >= 'a'", "sign > 'a'");
        breaks("word letters", "sign >= 'a' &&", "sign >= '_' &&");
        breaks("word length", "LONGEST_WORD = 8;", "LONGEST_WORD = 7;");
        breaks("word length", "LONGEST_WORD = 8;", "LONGEST_WORD = 9;");
        breaks("number length", "LONGEST_NUMBER = 4;", "LONGEST_NUMBER = 3;");
        breaks("number length", "LONGEST_NUMBER = 4;", "LONGEST_NUMBER = 5;");
        breaks("number length", "sign <= '9'", "sign < '9'");
        breaks("number length", "sign >= '0'", "sign > '0'");
        breaks("number then letter", "isDigit(signs[from]) && behind - from <= LONGEST_NUMBER",
            "isDigit(signs[from]) && behind - from <= LONGEST_NUMBER && !(behind < length && isLetter(signs[behind]))");
        breaks("token signs", "\"()<=+-*;\"", "\"()<=+-;\"");
        breaks("token signs", "kind[tokens] = isSign(signs[from]) ? signs[from] : WRONG;",
            "kind[tokens] = signs[from] == '<' ? '-' : isSign(signs[from]) ? signs[from] : WRONG;");
        breaks("token none", "kind[tokens] = isSign(signs[from]) ? signs[from] : WRONG;",
            "kind[tokens] = isSign(signs[from]) ? signs[from] : signs[from] == '.' ? ';' : WRONG;");
        breaks("token none", "place[tokens] = from;", "place[tokens] = kind[tokens] == WRONG ? behind - 1 : from;");
    }

    private static void statements() {
        breaks("any number", "i < text.tokens && fault == 0 && kind() != Tape.END", "i < 100 && fault == 0 && kind() != Tape.END");
        breaks("cell bounds", "from >= 0 && from < FIELD", "from > 0 && from < FIELD");
        breaks("cell bounds", "from >= 0 && from < FIELD", "from >= 0 && from < FIELD - 1");
        breaks("cell bounds", "if (!isOnField(x, wide) || !isOnField(y, high))", "if (!isOnField(x & 15, wide) || !isOnField(y, high))");
        breaks("rect cells", "row < y + high", "row <= y + high - 2 || row == y");
        breaks("rect cells", "|= (1 << wide) - 1 << x;", "|= (1 << high) - 1 << x;");
        breaks("less", "rows[y] &= ~(1 << x);", "rows[y] &= 1 << x;");
        breaks("let", "numbers[tellName(name)] = number;", "numbers[tellName(name)] += number;");
        breaks("each once", "            int last = sum(0);",
            "            if (slotOf(name) != NONE) {\n numbers[slotOf(name)] = first;\n }\n            int last = sum(0);");
        breaks("each in turn", "numbers[slot] = first + i;", "numbers[slot] = last - i;");
        breaks("each in turn", "(long) last - first + 1;", "(long) last - first;");
        breaks("each anew", "                readStep(true);\n", "                readStep(i == 0);\n");
        breaks("each none", "if (!working || turns <= 0)", "if (!working || turns < 0)");
        breaks("each none", "if (!working || turns <= 0)", "if (!working)");
        breaks("each keeps the last", "                readStep(true);\n", "                readStep(true);\n numbers[slot] = first;\n");
        breaks("each keeps the last", "                readStep(true);\n", "                readStep(true);\n numbers[slot]++;\n");
        breaks("each keeps of none", "            if (!working || turns <= 0) {\n",
            "            if (!working || turns <= 0) {\n numbers[slot] = first;\n");
        breaks("each keeps of none", "                Arrays.fill(numbers, 0);\n", "");
    }

    private static void names() {
        breaks("name told", "            int number = sum(0);", "            if (fault == 0) {\n tellName(name);\n }\n            int number = sum(0);");
        breaks("name told", "            int first = sum(0);", "            if (fault == 0) {\n tellName(name);\n }\n            int first = sum(0);");
        breaks("name told", "            int last = sum(0);", "            if (fault == 0) {\n tellName(name);\n }\n            int last = sum(0);");
        breaks("name told", "            told = 0;\n", "");
        breaks("eight names", "MOST_NAMES = 8;", "MOST_NAMES = 7;");
        breaks("eight names", "MOST_NAMES = 8;", "MOST_NAMES = 9;");
        breaks("eight names", "} else if (slotOf(at) == NONE && told == MOST_NAMES) {", "} else if (told == MOST_NAMES) {");
        breaks("name words", "if (kind() != Tape.NAME) {", "if (kind() < Tape.NAME || kind() > Tape.EACH) {");
        breaks("name words", "if (letters == 0x6c6574L) {", "if (letters == 0x6c6574L || letters == 0x6574L) {");
    }

    private static void expressions() {
        breaks("sums", "sign = operator == '+' ? 1 : -1;", "sign = 1;");
        breaks("sums", "sign = operator == '+' ? 1 : -1;", "sign = operator == '+' ? sign : -sign;");
        breaks("products", "product *= part(within);", "product += part(within);");
        breaks("products", "total += sign * product;", "total = (total + sign * product) * 1;\n if (kind() == Tape.NUMBER && total == 1) {\n total = 2;\n }");
        breaks("parts", "            expect(')');\n", "            if (kind() == ')') {\n at++;\n }\n");
        breaks("parts", "return numbers[slot];", "return slot;");
        breaks("part depth", "MOST_WITHIN = 5;", "MOST_WITHIN = 4;");
        breaks("part depth", "MOST_WITHIN = 5;", "MOST_WITHIN = 6;");
        breaks("part depth", "int inner = sum(within + 1);", "int inner = sum(within);");
        breaks("ints wrap", "return total + sign * product;",
            "return (int) Math.max(Integer.MIN_VALUE, Math.min(Integer.MAX_VALUE, total + (long) sign * product));");
        breaks("ints wrap", "product *= part(within);",
            "product = (int) Math.max(Integer.MIN_VALUE, Math.min(Integer.MAX_VALUE, (long) product * part(within)));");
    }

    private static void faults() {
        breaks("fault place", "fault = why + 16 * text.place[token];", "fault = why + 16 * token;");
        breaks("fault place", "fault = why + 16 * text.place[token];", "fault = why + 16 * (text.place[token] + 1);");
        breaks("fault end", "place[tokens] = length;", "place[tokens] = tokens > 0 ? place[tokens - 1] + 1 : 0;");
        breaks("fault first", "if (fault == 0 && token >= 0", "if (token >= 0");
        breaks("fault least", "                fail(token, NOT_TOLD);", "                fail(token, within >= MOST_WITHIN ? ONE_TOO_MANY : NOT_TOLD);");
        breaks("fault least", "                fail(token, CANT_STAND);", "                fail(token, within >= MOST_WITHIN ? ONE_TOO_MANY : CANT_STAND);");
        breaks("fault least", "            if (kind() != Tape.NAME) {\n                fail(at, CANT_STAND);",
            "            if (kind() != Tape.NAME) {\n                fail(at, told == MOST_NAMES ? ONE_TOO_MANY : CANT_STAND);");
        breaks("fault 1", "CANT_STAND = 1;", "CANT_STAND = 3;");
        breaks("fault 1", "if (kind != Tape.CELL && kind != Tape.RECT && kind != Tape.LESS) {",
            "if (kind == Tape.EACH) {\n readEach();\n return;\n }\n if (kind != Tape.CELL && kind != Tape.RECT && kind != Tape.LESS) {");
        breaks("fault 2", "NOT_TOLD = 2;", "NOT_TOLD = 1;");
        breaks("fault 5", "ONE_TOO_MANY = 5;", "ONE_TOO_MANY = 1;");
        breaks("text before work", "for (int pass = 0; pass < 2; pass++)", "for (int pass = 1; pass < 2; pass++)");
        breaks("work first", "            if (!isOnField(x, wide) || !isOnField(y, high)) {\n                fail(word, NOT_AS_TOLD);",
            "            if (!isOnField(x, wide) || !isOnField(y, high)) {\n                fail(at, NOT_AS_TOLD);");
        breaks("work first", "fail(word, NOT_THERE);", "fail(word + 1, NOT_THERE);");
        breaks("work 4", "wide <= FIELD - from;", "wide <= FIELD - from + 1;");
        breaks("work 4", "wide <= FIELD - from;", "wide <= FIELD - from && wide < FIELD;");
        breaks("work 4", "wide >= 1", "wide >= 0");
        breaks("work 4", "if (!isOnField(x, wide) || !isOnField(y, high))",
            "if (kind != Tape.LESS && (!isOnField(x, wide) || !isOnField(y, high)))");
        breaks("work 6", "                fail(word, NOT_THERE);\n", "");
        breaks("work 6", "NOT_THERE = 6;", "NOT_THERE = 4;");
        breaks("work 7", "if (cells > MOST_CELLS) {", "if (cells >= MOST_CELLS) {");
        breaks("work 7", "if (cells > MOST_CELLS) {", "if (cells > MOST_CELLS + 1) {");
        breaks("work 7", "TOO_MANY_CELLS = 7;", "TOO_MANY_CELLS = 4;");
        breaks("work each", "MOST_IN_TURN = 64;", "MOST_IN_TURN = 63;");
        breaks("work each", "MOST_IN_TURN = 64;", "MOST_IN_TURN = 65;");
        breaks("work each", "(long) last - first + 1;", "last - first + 1;");
        breaks("work each", "                fail(word, NOT_AS_TOLD);\n                return;", "                fail(at, NOT_AS_TOLD);\n                return;");
    }

    private static void ends() {
        breaks("end 8", "NO_CELL = 8;", "NO_CELL = 9;");
        breaks("end 8", "                return NO_CELL;", "                return 0;");
        breaks("end 9", "if (!hangsTogether()) {", "if (false) {");
        breaks("end 9", "APART = 9;", "APART = 10;");
        breaks("end 10", "return edges == open ? 0 : HOLE;", "return 0;");
        breaks("end 10", "HOLE = 10;", "HOLE = 9;");
        breaks("end 10", "return kind + 16 * end;", "return kind;");
        breaks("figure fault", "int kind = draft.lay(reader.rows);", "int kind = sheet.lay(reader.rows);");
        breaks("figure fault", "        if (fault != 0) {\n            return fault;", "        if (fault != 0) {\n acts.forget();\n            return fault;");
        breaks("figure fault", "        if (kind != 0) {\n", "        if (kind != 0) {\n acts.last = acts.at;\n");
        breaks("figure anew", "        acts.forget();\n", "");
        breaks("figure anew", "        acts.forget();\n", "        acts.forget();\n Arrays.fill(marks.laid, false);\n");
        breaks("figure anew", "            Arrays.fill(states[0], NONE);\n", "");
        breaks("cells numbered", "                    if ((rows[row] >> column & 1) != 0 && cells < MOST_CELLS) {\n"
            + "                        x[cells] = column;\n                        y[cells] = row;",
            "                    if ((rows[column] >> row & 1) != 0 && cells < MOST_CELLS) {\n"
            + "                        x[cells] = row;\n                        y[cells] = column;");
    }

    private static void rims() {
        breaks("sides", "STEP_X = {0, 1, 0, -1};", "STEP_X = {0, -1, 0, 1};");
        breaks("sides", "STEP_Y = {-1, 0, 1, 0};", "STEP_Y = {1, 0, -1, 0};");
        breaks("rim no cell", "if (x[cell] == column && y[cell] == row) {", "if (x[cell] == (column & 15) && y[cell] == (row & 15) || column == 16) {");
        breaks("rim from", "int side = SOUTH;\n            int turn = 0;", "int side = WEST;\n            int turn = 0;");
        breaks("rim from", "            int cell = 0;\n            int side = SOUTH;", "            int cell = cells - 1;\n            int side = NORTH;");
        breaks("rim row", "                    side = left;\n", "                    side = (side + 2) % 4;\n");
        breaks("rim row", "int left = (side + 1) % 4;", "int left = Math.min(side + 1, 3);");
        breaks("rim straight", "                    cell = ahead;\n", "                    cell = ahead;\n side = left;\n");
        breaks("rim straight", "} else if (across == NONE) {", "} else if (across == NONE && side < 3) {");
        breaks("rim in", "side = (side + 3) % 4;", "side = Math.max(side - 1, 0);");
        breaks("rim in", "side = (side + 3) % 4;", "side = (side + 1) % 4;");
        breaks("rim touch", "                if (ahead == NONE) {\n",
            "                int far = cellAt(x[cell] + STEP_X[left] + STEP_X[side], y[cell] + STEP_Y[left] + STEP_Y[side]);\n"
            + "                if (ahead == NONE && far != NONE) {\n cell = far;\n side = (side + 3) % 4;\n turn = 3;\n } else if (ahead == NONE) {\n");
        breaks("corner quarters", "turn = 1;", "turn = 2;");
        breaks("corner quarters", "turn = 2;", "turn = 1;");
        breaks("corner quarters", "turn = 3;", "turn = 2;");
        breaks("corner quarters", "            quarters[0] = turn;\n", "");
        breaks("glued corners", "unite(a, behindB) <= WHOLE_TURN && unite(behindA, b) <= WHOLE_TURN",
            "unite(a, b) <= WHOLE_TURN && unite(behindA, behindB) <= WHOLE_TURN");
        breaks("glued corners", "unite(a, behindB) <= WHOLE_TURN && unite(behindA, b) <= WHOLE_TURN", "unite(a, behindB) <= WHOLE_TURN");
        breaks("corners modulo", "a + 1 < edges ? a + 1 : 0;", "a + 1 < edges ? a + 1 : a;");
        breaks("corners modulo", "a + 1 < edges ? a + 1 : 0;", "a + 1 < edges ? a + 1 : 1;");
        breaks("corners modulo", "a + 1 < edges ? a + 1 : 0;", "a + 1 <= edges ? a + 1 : 0;");
        breaks("corners modulo", "b + 1 < edges ? b + 1 : 0;", "b + 1 <= edges ? b + 1 : 0;");
        breaks("corners modulo", "b + 1 < edges ? b + 1 : 0;", "b + 1 < edges ? b + 1 : b;");
        breaks("edge glued", "        later[b] = a;\n", "");
    }

    private static void gluings() {
        breaks("gluing pairs", "b < figure.edges && mates[b] == NONE && !tooMany; b++) {\n                if ((b - first) % 2 == 0) {",
            "b < figure.edges && !tooMany; b++) {\n                if (mates[b] != NONE || (b - first) % 2 == 0) {");
        breaks("gluing pairs", "told[open[depth]] = i;", "told[open[0]] = i;");
        breaks("four quarters", "unite(behindA, b) <= WHOLE_TURN;", "unite(behindA, b) < WHOLE_TURN;");
        breaks("four quarters", "return unite(a, behindB) <= WHOLE_TURN ", "return unite(a, behindB) < WHOLE_TURN ");
        breaks("four quarters", "return unite(a, behindB) <= WHOLE_TURN ", "return unite(a, behindB) <= WHOLE_TURN + 1 ");
        breaks("gluings numbered", "? openers[gluing] : 0;", "? openers[found - 1 - gluing] : 0;");
        breaks("gluings asked", "MOST = 2000;", "MOST = 44;");
        breaks("gluings asked", "gluing >= 0 && gluing < found;", "gluing >= 0 && gluing <= found;");
        breaks("gluings free", "        all.known = false;\n", "");
    }

    private static void byHand() {
        breaks("refused 1", " || a == b) {\n            return 1;", ") {\n            return 1;");
        breaks("refused 1", "if (!sheet.hasEdge(a) || !sheet.hasEdge(b) || a == b) {", "if (a < 0 || a > sheet.edges || !sheet.hasEdge(b) || a == b) {");
        breaks("refused 1", "if (!sheet.hasEdge(a) || !sheet.hasEdge(b) || a == b) {", "if (!sheet.hasEdge(a) || b < 0 || b > sheet.edges || a == b) {");
        breaks("refused 2", "mates[a] != NONE || mates[b] != NONE", "mates[a] != NONE");
        breaks("refused 2", "mates[a] != NONE || mates[b] != NONE", "mates[b] != NONE");
        breaks("refused 3", "mates[edge] < low || mates[edge] > high", "mates[edge] < low");
        breaks("refused 3", "mates[edge] < low || mates[edge] > high", "mates[edge] > high");
        breaks("refused 3", "Math.min(a, b), Math.max(a, b))", "a, b)");
        breaks("refused 4", "        if ((a - b) % 2 == 0) {", "        if (Math.abs(a - b) == 2) {");
        breaks("refused 4", "        if ((a - b) % 2 == 0) {", "        if ((a - b) % 2 == 0 && Math.abs(a - b) > 2) {");
        breaks("refused 5", "if (!trial.pair(a, b)) {", "if (false) {");
        breaks("refused 5", "        trial.copy(now);\n", "        trial.start(sheet);\n");
        breaks("refused 5", "unite(behindA, b) <= WHOLE_TURN;", "unite(behindA, b) <= WHOLE_TURN + 1;");
        breaks("refused 5", "return unite(a, behindB) <= WHOLE_TURN ", "return unite(a, behindB) <= WHOLE_TURN + 1 ");
        breaks("choose", "        all.tell(gluing);\n        System.arraycopy(all.told, 0, acts", "        System.arraycopy(all.told, 0, acts");
        breaks("choose", "        if (!all.has(gluing)) {\n            return false;", "        if (gluing < 0) {\n            return false;");
        breaks("undo", "if (acts.at == 0) {", "if (acts.at <= 1) {");
        breaks("undo", "        acts.at--;\n        settle();", "        acts.at--;");
        breaks("redo", "if (acts.at == acts.last) {", "if (acts.at + 1 >= acts.last) {");
        breaks("redo", "        acts.at++;\n        settle();", "        acts.at++;");
        breaks("new act", "            last = at;\n", "            last = Math.max(last, at);\n");
        breaks("forty acts", "MOST = 40;", "MOST = 39;");
        breaks("forty acts", "MOST = 40;", "MOST = 41;");
        breaks("forty acts", "states[i] = states[i + 1];", "states[i] = states[Math.max(i, 1)];");
        breaks("forty with undone", "if (at == MOST) {", "if (last == MOST) {");
    }

    private static void bodies() {
        breaks("body there", "return pairs * 2 == sheet.edges;", "return pairs * 2 >= sheet.edges - 2;");
        breaks("body there", "        if (isBody()) {\n            body.fold", "        if (isBody() && body.cells == 0) {\n            body.fold");
        breaks("beyond", "sideBehind[place] = figure.edgeSide[mate];", "sideBehind[place] = place % 4;");
        breaks("beyond", "sideBehind[place] = (place + 2) % 4;", "sideBehind[place] = place % 4;");
        breaks("turn", "(place + 1) % 4;\n                place = cellBehind", "(place + 3) % 4;\n                place = cellBehind");
        breaks("turn each time", "                many++;\n            } while", "                many += place / 4 == start / 4 && place != start ? 0 : 1;\n            } while");
        breaks("lacks", "howManyOf(WHOLE_TURN - quarters)", "howManyOf(quarters)");
        breaks("lacks", "least[i] == i && quarters[i] == together", "quarters[i] == together");
        breaks("lacks together", "turn = 3;", "turn = 2;");
    }

    private static void alike() {
        breaks("same seen from outside", "return equal(MOST, MOST + 1);", "return gluing == other;");
        breaks("same seen from outside", "place < body.cells * 4; place++) {\n                describeFrom", "place < 1; place++) {\n                describeFrom");
        breaks("same seen from outside", "int entry = number[to] * 4 + ", "int entry = 0 * number[to] + ");
        breaks("same seen from outside", "describeFrom(place / 4, place % 4, 1);", "describeFrom(place / 4, place % 3, 1);");
        breaks("same seen from outside", "describeFrom(place / 4, place % 4, 1);", "describeFrom(place / 5, place % 4, 1);");
        breaks("same seen from outside", "i < body.cells * 4 && i / 4 < found", "i < body.cells * 3 && i / 4 < found");
        breaks("same seen from outside", "LONGS = 4;", "LONGS = 3;");
        breaks("same mirrored", "                describeFrom(place / 4, place % 4, 3);\n", "");
        breaks("same mirrored", "                describeFrom(place / 4, place % 4, 3);\n", "                describeFrom(place / 4, place % 4, 2);\n");
        breaks("same arguments", "if (!all.has(gluing) || !all.has(other)) {", "if (!all.has(gluing)) {");
        breaks("same arguments", "if (!all.has(gluing) || !all.has(other)) {", "if (!all.has(other)) {");
        breaks("body of", "leastOf[i] = firstEqual(i);", "leastOf[i] = i;");
        breaks("body of", "if (!all.has(gluing) || !kindred.work()) {", "if (gluing < 0 || !kindred.work()) {");
        breaks("bodies", "int from = order[i / 4];", "int from = order[i / 5];");
        breaks("bodies", "kinds += leastOf[i] == i ? 1 : 0;", "kinds++;");
        breaks("bodies", "MOST = 300;", "MOST = 44;");
    }

    private static void ways() {
        breaks("way bounds", "LONGEST = 12;", "LONGEST = 11;");
        breaks("way bounds", "LONGEST = 12;", "LONGEST = 13;");
        breaks("way bounds", "!Ways.isNear(dx) || !Ways.isNear(dy)", "!Ways.isNear(dx)");
        breaks("way bounds", "return distance >= -LONGEST && distance", "return distance > -LONGEST && distance");
        breaks("way towards", "dx > 0 ? EAST : WEST;", "dx > 0 ? WEST : EAST;");
        breaks("way towards", "dy > 0 ? NORTH : SOUTH;", "dy > 0 ? SOUTH : NORTH;");
        breaks("way corner", "!= WHOLE_TURN) {\n                        return false;", "> WHOLE_TURN) {\n                        return false;");
        breaks("way corner", "if (sooner == 0) {", "if (sooner == 0 && column > 0) {");
        breaks("way corner", "if (sooner == 0) {", "if (sooner == 0 && column < 1) {");
        breaks("way corner", "sideX == EAST ? sideY / 2 : 3 - sideY / 2;", "sideX == EAST ? sideY / 2 : 2 + sideY / 2;");
        breaks("way corner", "sideX == EAST ? sideY / 2 : 3 - sideY / 2;", "sideX == EAST ? sideY / 2 : 3 + sideY / 2;");
        breaks("way corner", "(between + turned) % 4] != WHOLE_TURN", "between] != WHOLE_TURN");
        breaks("way turned", "turned = (body.sideBehind[place] + 6 - side) % 4;", "turned = (side + 6 - body.sideBehind[place]) % 4;");
        breaks("way turned", "turned = (body.sideBehind[place] + 6 - side) % 4;", "turned = body.sideBehind[place] + 6 - side;");
        breaks("way others", "what > 1 || !ways.go", "what > 2 || !ways.go");
        breaks("way others", "what < 0 || what > 1 || !ways.go", "what > 1 || !ways.go");
        breaks("way others", "        if (!isBody() || !body.hasCell(cell) || !Ways.isNear(dx)", "        if (!body.hasCell(cell) || !Ways.isNear(dx)");
    }

    private static void bestWays() {
        breaks("shortest least", "length < square[slot]", "length > square[slot]");
        breaks("shortest least", "int length = dx * dx + dy * dy;", "int length = Math.abs(dx) + Math.abs(dy);");
        breaks("shortest least", "                many[slot]++;\n", "");
        breaks("shortest to itself", "if (length <= LONGEST_SQUARE && go", "if (length > 0 && length <= LONGEST_SQUARE && go");
        breaks("shortest first", "                many[slot]++;\n", "                many[slot]++;\n firstX[slot] = dx;\n firstY[slot] = dy;\n");
        breaks("shortest first", "            for (int dx = -LONGEST; dx <= LONGEST; dx++) {\n                for (int dy = -LONGEST; dy <= LONGEST; dy++) {",
            "            for (int dy = -LONGEST; dy <= LONGEST; dy++) {\n                for (int dx = -LONGEST; dx <= LONGEST; dx++) {");
        breaks("shortest others", "what > 3) {\n            throw new NoSuchElementException(\"no such cells", "what > 4) {\n            throw new NoSuchElementException(\"no such cells");
        breaks("shortest others", "!isBody() || !body.hasCell(from)", "!body.hasCell(from)");
        breaks("shortest others", "|| !body.hasCell(to) ||", "|| to < 0 ||");
        breaks("round above 0", "length > 0 && end == from", "length >= 0 && end == from");
        breaks("round 144", "LONGEST_SQUARE = 144;", "LONGEST_SQUARE = 143;");
        breaks("round 144", "LONGEST_SQUARE = 144;", "LONGEST_SQUARE = 164;");
        breaks("round closed", "end == from && turned == 0)", "end == from)");
        breaks("round closed", "length > 0 && end == from && turned", "length > 0 && turned");
        breaks("round others", "what > 3) {\n            throw new NoSuchElementException(\"no such cell,", "what > 4) {\n            throw new NoSuchElementException(\"no such cell,");
        breaks("round others", "if (ways.many[Ways.CLOSED] == 0) {", "if (false) {");
        breaks("farthest", "square[i] > length", "(length < 0 || square[i] < length)");
        breaks("farthest first", "square[i] > length", "square[i] >= length");
        breaks("farthest others", "        if (!isBody() || !body.hasCell(cell)) {\n            return NONE;", "        if (!isBody()) {\n            return NONE;");
        breaks("farthest others", "        if (!isBody() || !body.hasCell(cell)) {\n            return NONE;", "        if (!body.hasCell(cell)) {\n            return NONE;");
    }

    private static void unfoldings() {
        breaks("cut cells", "MOST_CELLS_CUT = 8;", "MOST_CELLS_CUT = 7;");
        breaks("cut cells", "MOST_CELLS_CUT = 8;", "MOST_CELLS_CUT = 9;");
        breaks("cut one way", "if (least[chosen][a / 4] != least[chosen][b / 4]) {", "if (a / 4 != b / 4) {");
        breaks("cut each pair once", "place / 4 < other / 4 &&", "place / 4 != other / 4 &&");
        breaks("good", "if (Long.bitCount(least) == body.cells) {", "if (Long.bitCount(least) < body.cells) {");
        breaks("good", "                good++;\n", "");
        breaks("nets unlike", "i < 8; i++) {\n                long squares", "i < 4; i++) {\n                long squares");
        breaks("nets unlike", "long squares = squaresSeen(i);", "long squares = squaresSeen(i % 4 == 0 ? 0 : i % 4 == 1 ? 3 : i % 4 == 2 ? 5 : 6);");
        breaks("nets unlike", "                    unlike++;\n", "");
        breaks("nets unlike", "        private void keepNet(long squares) {\n            int slot = (int) ((squares * 0x9E3779B97F4A7C15L) >>> 55);",
            "        private void keepNet(long squares) {\n            int slot = (int) ((squares * 0x9E3779B97F4A7C15L) >>> 63);\n unlike++;");
        breaks("nets unlike", "                joined[b] = false;\n", "");
        breaks("nets unlike", "                    slot = (slot + 1) % ROOM;\n", "");
        breaks("nets others", "what > 2 || body.cells >", "what > 3 || body.cells >");
        breaks("nets others", "        unfolder.known = false;\n", "");
    }

    private static void marks() {
        breaks("mark numbers", "MOST = 4;", "MOST = 3;");
        breaks("mark numbers", "MOST = 4;", "MOST = 5;");
        breaks("mark numbers", "if (!marks.laid[mark]) {", "if (false) {");
        breaks("mark numbers", "if (mark < 0 || mark >= Marks.MOST) {", "if (mark >= Marks.MOST) {");
        breaks("mark holds", "        System.arraycopy(marks.mates[mark], 0, acts.mates(), 0, MOST_EDGES);\n", "");
        breaks("mark holds", "            System.arraycopy(glued, 0, mates[mark], 0, MOST_EDGES);\n", "            mates[mark] = glued;\n");
        breaks("mark holds", "            System.arraycopy(field, 0, rows[mark], 0, Reader.FIELD);\n", "            rows[mark] = field;\n");
        breaks("mark holds", "0, acts.mates(), 0, MOST_EDGES);\n        settle();", "0, acts.mates(), 0, MOST_EDGES);");
        breaks("mark forgets acts", "        takeFigure(marks.rows[mark]);\n",
            "        sheet.lay(marks.rows[mark]);\n all.known = false;\n kindred.known = false;\n");
        breaks("mark forgets acts", "            marks.lay(mark, sheet.rows, acts.mates());\n",
            "            marks.lay(mark, sheet.rows, acts.mates());\n acts.last = acts.at;\n");
    }

    private static void face() {
        breaks("none", "NONE = -1;", "NONE = -2;");
        breaks("new", "reader.rows[0] = 1;", "reader.rows[0] = 3;");
        breaks("512 calls", "    private void settle() {\n", "    private int settled;\n\n    private void settle() {\n if (settled++ > 145) {\n return;\n }\n");
        breaks("cell others", "what <= 5) {", "what <= 6) {");
        breaks("cell others", "        if (!sheet.hasCell(cell)) {", "        if (cell < 0 || cell > sheet.cells) {");
        breaks("edge others", "return sheet.quarters[edge];", "return now.quarters[now.least[edge]];");
        breaks("edge others", "        if (!sheet.hasEdge(edge)) {", "        if (edge < 0 || edge > sheet.edges) {");
        breaks("partner others", "if (!all.has(gluing) || !sheet.hasEdge(edge)) {", "if (!all.has(gluing) || edge > 6) {");
        breaks("partner others", "if (!all.has(gluing) || !sheet.hasEdge(edge)) {", "if (gluing > 6 || !sheet.hasEdge(edge)) {\n return 0;\n }\n if (!all.has(gluing)) {");
        breaks("corner others", "        if (!sheet.hasEdge(corner)) {", "        if (corner < 0 || corner > sheet.edges) {");
        breaks("corner others", "return now.howMany(least);", "return now.howMany(corner);");
        breaks("lacking others", "quarters < 1 || quarters > 3", "quarters < 0 || quarters > 3");
        breaks("lacking others", "quarters < 1 || quarters > 3", "quarters < 1 || quarters > 4");
        breaks("lacking others", "if (!isBody() || quarters", "if (quarters");
        breaks("beyond others", "|| side < 0 || side > 3) {", "|| side < -1 || side > 3) {");
        breaks("beyond others", "|| side < 0 || side > 3) {", "|| side < 0 || side > 4) {");
        breaks("beyond others", "if (!isBody() || !body.hasCell(cell) || side", "if (!body.hasCell(cell) || side");
        breaks("count", "return acts.last - acts.at;", "return acts.last;");
        breaks("count", "                return pairs;", "                return pairs * 2;");
        breaks("count", "MOST_EDGES = 22;", "MOST_EDGES = 20;");
        breaks("count body and signs", "return isBody() ? 1 : 0;", "return pairs > 0 ? 1 : 0;");
        breaks("count body and signs", "            case 6:\n                return tape.length;", "            case 6:\n                return tape.tokens;");
        breaks("count others", "return tape.length;\n            default:\n                return NONE;", "return tape.length;\n            default:\n                return 0;");
    }
}
