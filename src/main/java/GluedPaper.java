import java.util.Arrays;
import java.util.NoSuchElementException;

/**
 * Flat figures of square cells, told in a small language, whose rims are glued side by side to one
 * closed body. The words in capitals are those of the document.
 */
public final class GluedPaper {
    public static final int NONE = -1;

    private static final int MOST_CELLS = 10;
    private static final int MOST_SIDES = 40;
    /** Cells that hang together, n of them, have a RIM of 2 n + 2 EDGES at most. */
    private static final int MOST_EDGES = 22;
    private static final int WHOLE_TURN = 4;
    private static final int SOUTH = 0;
    private static final int EAST = 1;
    private static final int NORTH = 2;
    private static final int WEST = 3;
    private static final int[] STEP_X = {0, 1, 0, -1};
    private static final int[] STEP_Y = {-1, 0, 1, 0};

    private final Tape tape;
    private final Reader reader;
    private final Figure sheet;
    private final Figure draft;
    private final Acts acts;
    private final Corners now;
    private final Corners trial;
    private final Gluings all;
    private final Body body;
    private final Bodies kindred;
    private final Ways ways;
    private final Unfolder unfolder;
    private final Marks marks;
    private int pairs;

    public GluedPaper() {
        tape = new Tape();
        reader = new Reader();
        sheet = new Figure();
        draft = new Figure();
        acts = new Acts();
        now = new Corners();
        trial = new Corners();
        all = new Gluings(sheet);
        body = new Body();
        kindred = new Bodies(sheet, all);
        ways = new Ways(body);
        unfolder = new Unfolder(body);
        marks = new Marks();
        reader.rows[0] = 1;
        takeFigure(reader.rows);
    }

    public int feed(long a, long b, long c) {
        tape.put(a);
        tape.put(b);
        tape.put(c);
        return tape.length;
    }

    public int figure() {
        int end = tape.length;
        int fault = reader.read(tape);
        tape.length = 0;
        if (fault != 0) {
            return fault;
        }
        int kind = draft.lay(reader.rows);
        if (kind != 0) {
            return kind + 16 * end;
        }
        takeFigure(reader.rows);
        return 0;
    }

    public int cell(int cell, int what) {
        if (!sheet.hasCell(cell)) {
            return NONE;
        }
        if (what == 0) {
            return sheet.x[cell];
        }
        if (what == 1) {
            return sheet.y[cell];
        }
        if (what >= 2 && what <= 5) {
            return sheet.edgeAt[cell * 4 + what - 2];
        }
        return NONE;
    }

    public int edge(int edge, int what) {
        if (!sheet.hasEdge(edge)) {
            return NONE;
        }
        switch (what) {
            case 0:
                return sheet.edgeCell[edge];
            case 1:
                return sheet.edgeSide[edge];
            case 2:
                return sheet.quarters[edge];
            case 3:
                return acts.mates()[edge];
            default:
                return NONE;
        }
    }

    public int gluings() {
        all.work();
        return all.tooMany ? NONE : all.found;
    }

    public int partner(int gluing, int edge) {
        if (!all.has(gluing) || !sheet.hasEdge(edge)) {
            return NONE;
        }
        all.tell(gluing);
        return all.told[edge];
    }

    public int glue(int a, int b) {
        if (!sheet.hasEdge(a) || !sheet.hasEdge(b) || a == b) {
            return 1;
        }
        int[] mates = acts.mates();
        if (mates[a] != NONE || mates[b] != NONE) {
            return 2;
        }
        if (crosses(mates, Math.min(a, b), Math.max(a, b))) {
            return 3;
        }
        if ((a - b) % 2 == 0) {
            return 4;
        }
        trial.copy(now);
        if (!trial.pair(a, b)) {
            return 5;
        }
        int[] later = acts.begin();
        later[a] = b;
        later[b] = a;
        settle();
        return 0;
    }

    public boolean choose(int gluing) {
        if (!all.has(gluing)) {
            return false;
        }
        all.tell(gluing);
        System.arraycopy(all.told, 0, acts.begin(), 0, MOST_EDGES);
        settle();
        return true;
    }

    public boolean undo() {
        if (acts.at == 0) {
            return false;
        }
        acts.at--;
        settle();
        return true;
    }

    public boolean redo() {
        if (acts.at == acts.last) {
            return false;
        }
        acts.at++;
        settle();
        return true;
    }

    public int corner(int corner, int what) {
        if (!sheet.hasEdge(corner)) {
            return NONE;
        }
        int least = now.least[corner];
        switch (what) {
            case 0:
                return least;
            case 1:
                return now.quarters[least];
            case 2:
                return now.howMany(least);
            default:
                return NONE;
        }
    }

    public int lacking(int quarters) {
        if (!isBody() || quarters < 1 || quarters > 3) {
            return NONE;
        }
        return now.howManyOf(WHOLE_TURN - quarters);
    }

    public int beyond(int cell, int side, int what) {
        if (!isBody() || !body.hasCell(cell) || side < 0 || side > 3) {
            return NONE;
        }
        int place = cell * 4 + side;
        switch (what) {
            case 0:
                return body.cellBehind[place];
            case 1:
                return body.sideBehind[place];
            case 2:
                return body.turn[place];
            default:
                return NONE;
        }
    }

    public int same(int gluing, int other) {
        if (!all.has(gluing) || !all.has(other)) {
            return NONE;
        }
        return kindred.areAlike(gluing, other) ? 1 : 0;
    }

    public int bodyOf(int gluing) {
        if (!all.has(gluing) || !kindred.work()) {
            return NONE;
        }
        return kindred.leastAlike(gluing);
    }

    public int bodies() {
        return kindred.work() ? kindred.kinds : NONE;
    }

    public int way(int cell, int dx, int dy, int what) {
        if (!isBody() || !body.hasCell(cell) || !Ways.isNear(dx) || !Ways.isNear(dy)) {
            return NONE;
        }
        if (what < 0 || what > 1 || !ways.go(cell, dx, dy)) {
            return NONE;
        }
        return what == 0 ? ways.end : ways.turned;
    }

    public int shortest(int from, int to, int what) throws NoSuchElementException {
        if (!isBody() || !body.hasCell(from) || !body.hasCell(to) || what < 0 || what > 3) {
            throw new NoSuchElementException("no such cells, no such what, or no body");
        }
        ways.look(from);
        if (ways.many[to] == 0) {
            throw new NoSuchElementException("no way");
        }
        return ways.tell(to, what);
    }

    public int round(int cell, int what) throws NoSuchElementException {
        if (!isBody() || !body.hasCell(cell) || what < 0 || what > 3) {
            throw new NoSuchElementException("no such cell, no such what, or no body");
        }
        ways.look(cell);
        if (ways.many[Ways.CLOSED] == 0) {
            throw new NoSuchElementException("no closed way");
        }
        return ways.tell(Ways.CLOSED, what);
    }

    public int farthest(int cell) {
        if (!isBody() || !body.hasCell(cell)) {
            return NONE;
        }
        ways.look(cell);
        return ways.farthestEnd();
    }

    public int nets(int what) {
        if (!isBody() || what < 0 || what > 2 || body.cells > Unfolder.MOST_CELLS_CUT) {
            return NONE;
        }
        unfolder.work();
        if (what == 0) {
            return unfolder.trees;
        }
        return what == 1 ? unfolder.good : unfolder.unlike;
    }

    public boolean mark(int mark, boolean back) {
        if (mark < 0 || mark >= Marks.MOST) {
            return false;
        }
        if (!back) {
            marks.lay(mark, sheet.rows, acts.mates());
            return true;
        }
        if (!marks.laid[mark]) {
            return false;
        }
        takeFigure(marks.rows[mark]);
        System.arraycopy(marks.mates[mark], 0, acts.mates(), 0, MOST_EDGES);
        settle();
        return true;
    }

    public int count(int what) {
        switch (what) {
            case 0:
                return sheet.cells;
            case 1:
                return sheet.edges;
            case 2:
                return pairs;
            case 3:
                return acts.at;
            case 4:
                return acts.last - acts.at;
            case 5:
                return isBody() ? 1 : 0;
            case 6:
                return tape.length;
            default:
                return NONE;
        }
    }

    private void takeFigure(int[] rows) {
        sheet.lay(rows);
        acts.forget();
        all.known = false;
        kindred.known = false;
        settle();
    }

    /** All that is worked out of what is GLUED, after each change of it. */
    private void settle() {
        int[] mates = acts.mates();
        now.start(sheet);
        pairs = 0;
        for (int edge = 0; edge < sheet.edges; edge++) {
            if (mates[edge] > edge) {
                now.pair(edge, mates[edge]);
                pairs++;
            }
        }
        if (isBody()) {
            body.fold(sheet, mates);
        }
        ways.lookedFrom = NONE;
        unfolder.known = false;
    }

    private boolean isBody() {
        return pairs * 2 == sheet.edges;
    }

    private boolean crosses(int[] mates, int low, int high) {
        for (int edge = low + 1; edge < high; edge++) {
            if (mates[edge] != NONE && (mates[edge] < low || mates[edge] > high)) {
                return true;
            }
        }
        return false;
    }

    /** The TAPE, and the TOKENS that it is cut into when it is read. */
    private static final class Tape {
        static final int MOST_SIGNS = 1000;
        static final int LONGEST_WORD = 8;
        static final int LONGEST_NUMBER = 4;
        /** Kinds of TOKENS; a sign that is a TOKEN by itself is its own kind. */
        static final int END = 0;
        static final int WRONG = 1;
        static final int NUMBER = 2;
        static final int NAME = 3;
        static final int CELL = 4;
        static final int RECT = 5;
        static final int LESS = 6;
        static final int LET = 7;
        static final int EACH = 8;

        final char[] signs = new char[MOST_SIGNS];
        int length = 0;
        final int[] kind = new int[MOST_SIGNS + 1];
        final int[] place = new int[MOST_SIGNS + 1];
        /** Of a NUMBER what it is, of a WORD its letters, a byte each. */
        final long[] value = new long[MOST_SIGNS + 1];
        int tokens = 0;

        void put(long bytes) {
            for (int shift = 56; shift >= 0; shift -= 8) {
                int sign = (int) ((bytes >>> shift) & 255L);
                boolean known = sign == 10 || (sign >= 32 && sign <= 126);
                if (known && length < MOST_SIGNS) {
                    signs[length] = (char) sign;
                    length++;
                }
            }
        }

        void cut() {
            tokens = 0;
            int behind = 0;
            for (int at = 0; at < length; at++) {
                if (at >= behind && !isBlank(signs[at])) {
                    behind = endOfRun(at);
                    keep(at, behind);
                }
            }
            kind[tokens] = END;
            place[tokens] = length;
        }

        private void keep(int from, int behind) {
            long worth = 0;
            if (isLetter(signs[from]) && behind - from <= LONGEST_WORD) {
                for (int i = from; i < behind; i++) {
                    worth = worth * 256 + signs[i];
                }
                kind[tokens] = kindOfWord(worth);
            } else if (isDigit(signs[from]) && behind - from <= LONGEST_NUMBER) {
                for (int i = from; i < behind; i++) {
                    worth = worth * 10 + signs[i] - '0';
                }
                kind[tokens] = NUMBER;
            } else {
                kind[tokens] = isSign(signs[from]) ? signs[from] : WRONG;
            }
            place[tokens] = from;
            value[tokens] = worth;
            tokens++;
        }

        private int endOfRun(int from) {
            int at = from + 1;
            if (isLetter(signs[from])) {
                while (at < length && isLetter(signs[at])) {
                    at++;
                }
            } else if (isDigit(signs[from])) {
                while (at < length && isDigit(signs[at])) {
                    at++;
                }
            }
            return at;
        }

        private static int kindOfWord(long letters) {
            if (letters == 0x63656c6cL) {
                return CELL;
            }
            if (letters == 0x72656374L) {
                return RECT;
            }
            if (letters == 0x6c657373L) {
                return LESS;
            }
            if (letters == 0x6c6574L) {
                return LET;
            }
            return letters == 0x65616368L ? EACH : NAME;
        }

        private static boolean isBlank(char sign) {
            return sign == 10 || sign == 32;
        }

        private static boolean isLetter(char sign) {
            return sign >= 'a' && sign <= 'z';
        }

        private static boolean isDigit(char sign) {
            return sign >= '0' && sign <= '9';
        }

        private static boolean isSign(char sign) {
            return "()<=+-*;".indexOf(sign) >= 0;
        }
    }

    /**
     * Reads a FIGURE's text twice: first for the FAULTS of its TOKENS alone, then doing what it says
     * on the rows, where bit x of row y is set if a CELL is there.
     */
    private static final class Reader {
        static final int FIELD = 16;
        static final int MOST_NAMES = 8;
        static final int MOST_WITHIN = 5;
        static final int MOST_IN_TURN = 64;
        static final int CANT_STAND = 1;
        static final int NOT_TOLD = 2;
        static final int NOT_AS_TOLD = 4;
        static final int ONE_TOO_MANY = 5;
        static final int NOT_THERE = 6;
        static final int TOO_MANY_CELLS = 7;

        final int[] rows = new int[FIELD];
        private final long[] names = new long[MOST_NAMES];
        private final int[] numbers = new int[MOST_NAMES];
        private int told;
        private Tape text;
        private int at;
        private int fault;
        private boolean working;

        /** 0, or the FAULT of the text; what the rows then show says nothing. */
        int read(Tape tape) {
            text = tape;
            text.cut();
            told = 0;
            fault = 0;
            Arrays.fill(rows, 0);
            for (int pass = 0; pass < 2; pass++) {
                working = pass == 1;
                at = 0;
                // The pass before has left numbers behind; a NAME that its each never sets is 0.
                Arrays.fill(numbers, 0);
                for (int i = 0; i < text.tokens && fault == 0 && kind() != Tape.END; i++) {
                    if (kind() == Tape.LET) {
                        readLet();
                    } else if (kind() == Tape.EACH) {
                        readEach();
                    } else {
                        readStep(working);
                    }
                    expect(';');
                }
            }
            return fault;
        }

        private int kind() {
            return at >= 0 && at <= text.tokens ? text.kind[at] : Tape.END;
        }

        private void fail(int token, int why) {
            if (fault == 0 && token >= 0 && token <= text.tokens) {
                fault = why + 16 * text.place[token];
            }
        }

        private void expect(int sign) {
            if (kind() != sign) {
                fail(at, CANT_STAND);
            } else {
                at++;
            }
        }

        private void readLet() {
            at++;
            int name = at;
            readNewName();
            int number = sum(0);
            if (fault == 0) {
                numbers[tellName(name)] = number;
            }
        }

        private void readEach() {
            int word = at;
            at++;
            int name = at;
            readNewName();
            int first = sum(0);
            int last = sum(0);
            if (fault != 0) {
                return;
            }
            int slot = tellName(name);
            long turns = (long) last - first + 1;
            if (!working || turns <= 0) {
                readStep(false);
                return;
            }
            if (turns > MOST_IN_TURN) {
                fail(word, NOT_AS_TOLD);
                return;
            }
            int step = at;
            for (int i = 0; i < turns && fault == 0; i++) {
                at = step;
                numbers[slot] = first + i;
                readStep(true);
            }
        }

        private void readNewName() {
            if (fault != 0) {
                return;
            }
            if (kind() != Tape.NAME) {
                fail(at, CANT_STAND);
            } else if (slotOf(at) == NONE && told == MOST_NAMES) {
                fail(at, ONE_TOO_MANY);
            } else {
                at++;
            }
        }

        private int slotOf(int token) {
            for (int i = 0; i < told; i++) {
                if (names[i] == text.value[token]) {
                    return i;
                }
            }
            return NONE;
        }

        private int tellName(int token) {
            int slot = slotOf(token);
            if (slot != NONE || told >= MOST_NAMES) {
                return Math.max(slot, 0);
            }
            names[told] = text.value[token];
            told++;
            return told - 1;
        }

        private void readStep(boolean doing) {
            int word = at;
            int kind = kind();
            if (fault != 0) {
                return;
            }
            if (kind != Tape.CELL && kind != Tape.RECT && kind != Tape.LESS) {
                fail(at, CANT_STAND);
                return;
            }
            at++;
            int x = sum(0);
            int y = sum(0);
            int wide = kind == Tape.RECT ? sum(0) : 1;
            int high = kind == Tape.RECT ? sum(0) : 1;
            if (fault != 0 || !doing) {
                return;
            }
            if (!isOnField(x, wide) || !isOnField(y, high)) {
                fail(word, NOT_AS_TOLD);
            } else if (kind != Tape.LESS) {
                putCells(word, x, y, wide, high);
            } else if ((rows[y] >> x & 1) == 0) {
                fail(word, NOT_THERE);
            } else {
                rows[y] &= ~(1 << x);
            }
        }

        private static boolean isOnField(int from, int wide) {
            return from >= 0 && from < FIELD && wide >= 1 && wide <= FIELD - from;
        }

        private void putCells(int word, int x, int y, int wide, int high) {
            for (int row = y; row < y + high; row++) {
                rows[row] |= (1 << wide) - 1 << x;
            }
            int cells = 0;
            for (int row = 0; row < FIELD; row++) {
                cells += Integer.bitCount(rows[row]);
            }
            if (cells > MOST_CELLS) {
                fail(word, TOO_MANY_CELLS);
            }
        }

        /** An E that lies within so many ( ). */
        private int sum(int within) {
            int total = 0;
            int sign = 1;
            int product = part(within);
            for (int i = 0; i <= text.tokens && fault == 0; i++) {
                int operator = kind();
                if (operator == '*') {
                    at++;
                    product *= part(within);
                } else if (operator == '+' || operator == '-') {
                    at++;
                    total += sign * product;
                    sign = operator == '+' ? 1 : -1;
                    product = part(within);
                } else {
                    break;
                }
            }
            return total + sign * product;
        }

        private int part(int within) {
            if (fault != 0) {
                return 0;
            }
            int token = at;
            int kind = kind();
            if (kind != Tape.NUMBER && kind != Tape.NAME && kind != '(') {
                fail(token, CANT_STAND);
                return 0;
            }
            int slot = kind == Tape.NAME ? slotOf(token) : 0;
            if (slot == NONE) {
                fail(token, NOT_TOLD);
                return 0;
            }
            if (within >= MOST_WITHIN) {
                fail(token, ONE_TOO_MANY);
                return 0;
            }
            at++;
            if (kind == Tape.NUMBER) {
                return (int) text.value[token];
            }
            if (kind == Tape.NAME) {
                return numbers[slot];
            }
            int inner = sum(within + 1);
            expect(')');
            return inner;
        }
    }

    /** The CELLS of a FIGURE, which of them lie side by side, and its RIM. */
    private static final class Figure {
        static final int NO_CELL = 8;
        static final int APART = 9;
        static final int HOLE = 10;

        final int[] rows = new int[Reader.FIELD];
        final int[] x = new int[MOST_CELLS];
        final int[] y = new int[MOST_CELLS];
        int cells;
        /** Of each SIDE, at CELL * 4 + SIDE: the CELL on its other hand, and the EDGE that it is. */
        final int[] next = new int[MOST_SIDES];
        final int[] edgeAt = new int[MOST_SIDES];
        int edges;
        final int[] edgeCell = new int[MOST_EDGES];
        final int[] edgeSide = new int[MOST_EDGES];
        final int[] quarters = new int[MOST_EDGES];

        boolean hasCell(int cell) {
            return cell >= 0 && cell < cells;
        }

        boolean hasEdge(int edge) {
            return edge >= 0 && edge < edges;
        }

        /** 0, or the kind of the FAULT that makes these rows no FIGURE. */
        int lay(int[] field) {
            System.arraycopy(field, 0, rows, 0, Reader.FIELD);
            numberCells();
            if (cells == 0) {
                return NO_CELL;
            }
            int open = linkCells();
            if (!hangsTogether()) {
                return APART;
            }
            traceRim();
            return edges == open ? 0 : HOLE;
        }

        private void numberCells() {
            cells = 0;
            for (int row = 0; row < Reader.FIELD; row++) {
                for (int column = 0; column < Reader.FIELD; column++) {
                    if ((rows[row] >> column & 1) != 0 && cells < MOST_CELLS) {
                        x[cells] = column;
                        y[cells] = row;
                        cells++;
                    }
                }
            }
        }

        /** How many SIDES have no CELL behind them. */
        private int linkCells() {
            int open = 0;
            for (int cell = 0; cell < cells; cell++) {
                for (int side = 0; side < 4; side++) {
                    int behind = cellAt(x[cell] + STEP_X[side], y[cell] + STEP_Y[side]);
                    next[cell * 4 + side] = behind;
                    edgeAt[cell * 4 + side] = NONE;
                    open += behind == NONE ? 1 : 0;
                }
            }
            return open;
        }

        private int cellAt(int column, int row) {
            for (int cell = 0; cell < cells; cell++) {
                if (x[cell] == column && y[cell] == row) {
                    return cell;
                }
            }
            return NONE;
        }

        private boolean hangsTogether() {
            int reached = 1;
            for (int i = 0; i < cells; i++) {
                for (int place = 0; place < cells * 4; place++) {
                    if ((reached >> place / 4 & 1) != 0 && next[place] != NONE) {
                        reached |= 1 << next[place];
                    }
                }
            }
            return reached == (1 << cells) - 1;
        }

        private void traceRim() {
            edges = 0;
            int cell = 0;
            int side = SOUTH;
            int turn = 0;
            for (int i = 0; i < MOST_EDGES && edgeAt[cell * 4 + side] == NONE; i++) {
                edgeAt[cell * 4 + side] = i;
                edgeCell[i] = cell;
                edgeSide[i] = side;
                quarters[i] = turn;
                edges++;
                int left = (side + 1) % 4;
                int ahead = next[cell * 4 + left];
                int across = ahead == NONE ? NONE : next[ahead * 4 + side];
                if (ahead == NONE) {
                    side = left;
                    turn = 1;
                } else if (across == NONE) {
                    cell = ahead;
                    turn = 2;
                } else {
                    cell = across;
                    side = (side + 3) % 4;
                    turn = 3;
                }
            }
            quarters[0] = turn;
        }
    }

    /** Which CORNERS are one, told by the least of them, and the QUARTERS that these have together. */
    private static final class Corners {
        int edges;
        final int[] least = new int[MOST_EDGES];
        final int[] quarters = new int[MOST_EDGES];

        void start(Figure figure) {
            edges = figure.edges;
            for (int i = 0; i < edges; i++) {
                least[i] = i;
                quarters[i] = figure.quarters[i];
            }
        }

        void copy(Corners other) {
            edges = other.edges;
            System.arraycopy(other.least, 0, least, 0, MOST_EDGES);
            System.arraycopy(other.quarters, 0, quarters, 0, MOST_EDGES);
        }

        /** Lays two EDGES on one another; whether no CORNERS that are one have more than 4 QUARTERS. */
        boolean pair(int a, int b) {
            int behindA = a + 1 < edges ? a + 1 : 0;
            int behindB = b + 1 < edges ? b + 1 : 0;
            return unite(a, behindB) <= WHOLE_TURN && unite(behindA, b) <= WHOLE_TURN;
        }

        private int unite(int a, int b) {
            int low = Math.min(least[a], least[b]);
            int high = Math.max(least[a], least[b]);
            if (low != high) {
                for (int i = high; i < edges; i++) {
                    least[i] = least[i] == high ? low : least[i];
                }
                quarters[low] += quarters[high];
            }
            return quarters[low];
        }

        int howMany(int first) {
            int many = 0;
            for (int i = 0; i < edges; i++) {
                many += least[i] == first ? 1 : 0;
            }
            return many;
        }

        int howManyOf(int together) {
            int many = 0;
            for (int i = 0; i < edges; i++) {
                many += least[i] == i && quarters[i] == together ? 1 : 0;
            }
            return many;
        }
    }

    /** All GLUINGS of a FIGURE; each is kept as the bits of those EDGES that are glued to later ones. */
    private static final class Gluings {
        static final int MOST = 2000;

        private final Figure figure;
        boolean known;
        boolean tooMany;
        int found;
        private final int[] openers = new int[MOST];
        private final int[] mates = new int[MOST_EDGES];
        private final Corners[] corners = new Corners[MOST_EDGES / 2 + 1];
        private final int[] open = new int[MOST_EDGES];
        /** What each EDGE is glued to by the GLUING that was asked about last. */
        final int[] told = new int[MOST_EDGES];

        Gluings(Figure figure) {
            this.figure = figure;
            for (int i = 0; i < corners.length; i++) {
                corners[i] = new Corners();
            }
        }

        boolean has(int gluing) {
            work();
            return !tooMany && gluing >= 0 && gluing < found;
        }

        void work() {
            if (known) {
                return;
            }
            known = true;
            found = 0;
            tooMany = false;
            Arrays.fill(mates, NONE);
            corners[0].start(figure);
            search(0, 0);
        }

        /** Glues the first free EDGE, not before the one told, to all that it can be glued to. */
        private void search(int from, int depth) {
            int first = from;
            while (first < figure.edges && mates[first] != NONE) {
                first++;
            }
            if (first >= figure.edges) {
                keep();
                return;
            }
            if (depth + 1 >= corners.length) {
                return;
            }
            // What is glued behind the first free EDGE closes pairs about it, which must not be crossed.
            for (int b = first + 1; b < figure.edges && mates[b] == NONE && !tooMany; b++) {
                if ((b - first) % 2 == 0) {
                    continue;
                }
                corners[depth + 1].copy(corners[depth]);
                if (corners[depth + 1].pair(first, b)) {
                    mates[first] = b;
                    mates[b] = first;
                    search(first + 1, depth + 1);
                    mates[first] = NONE;
                    mates[b] = NONE;
                }
            }
        }

        private void keep() {
            if (found >= MOST) {
                tooMany = true;
                return;
            }
            int bits = 0;
            for (int i = 0; i < figure.edges; i++) {
                bits |= mates[i] > i ? 1 << i : 0;
            }
            openers[found] = bits;
            found++;
        }

        void tell(int gluing) {
            int depth = 0;
            int bits = gluing >= 0 && gluing < found ? openers[gluing] : 0;
            for (int i = 0; i < MOST_EDGES; i++) {
                told[i] = NONE;
                if ((bits >> i & 1) != 0) {
                    open[depth] = i;
                    depth++;
                } else if (depth > 0) {
                    depth--;
                    told[i] = open[depth];
                    told[open[depth]] = i;
                }
            }
        }
    }

    /** What is GLUED, before and behind each ACT that is kept. */
    private static final class Acts {
        static final int MOST = 40;

        private final int[][] states = new int[MOST + 1][MOST_EDGES];
        int at;
        int last;

        int[] mates() {
            return states[at];
        }

        void forget() {
            at = 0;
            last = 0;
            Arrays.fill(states[0], NONE);
        }

        /** A new ACT: the state behind it, which is still the one before it. */
        int[] begin() {
            if (at == MOST) {
                int[] oldest = states[0];
                for (int i = 0; i < MOST; i++) {
                    states[i] = states[i + 1];
                }
                states[MOST] = oldest;
                at--;
            }
            System.arraycopy(states[at], 0, states[at + 1], 0, MOST_EDGES);
            at++;
            last = at;
            return states[at];
        }
    }

    private static final class Marks {
        static final int MOST = 4;

        final boolean[] laid = new boolean[MOST];
        final int[][] rows = new int[MOST][Reader.FIELD];
        final int[][] mates = new int[MOST][MOST_EDGES];

        void lay(int mark, int[] field, int[] glued) {
            laid[mark] = true;
            System.arraycopy(field, 0, rows[mark], 0, Reader.FIELD);
            System.arraycopy(glued, 0, mates[mark], 0, MOST_EDGES);
        }
    }

    /** What is BEYOND each SIDE of a BODY, and the TURN behind it, at CELL * 4 + SIDE. */
    private static final class Body {
        int cells;
        final int[] cellBehind = new int[MOST_SIDES];
        final int[] sideBehind = new int[MOST_SIDES];
        final int[] turn = new int[MOST_SIDES];

        boolean hasCell(int cell) {
            return cell >= 0 && cell < cells;
        }

        /** All EDGES of the figure have to be glued. */
        void fold(Figure figure, int[] mates) {
            cells = figure.cells;
            for (int place = 0; place < cells * 4; place++) {
                int edge = figure.edgeAt[place];
                int mate = figure.hasEdge(edge) ? mates[edge] : NONE;
                if (figure.hasEdge(mate)) {
                    cellBehind[place] = figure.edgeCell[mate];
                    sideBehind[place] = figure.edgeSide[mate];
                } else {
                    cellBehind[place] = figure.next[place];
                    sideBehind[place] = (place + 2) % 4;
                }
            }
            for (int place = 0; place < cells * 4; place++) {
                turn[place] = turnAt(place);
            }
        }

        private int turnAt(int start) {
            int place = start;
            int many = 0;
            do {
                int across = place / 4 * 4 + (place + 1) % 4;
                place = cellBehind[across] * 4 + sideBehind[across];
                many++;
            } while (place != start && many < MOST_SIDES);
            return many;
        }
    }

    /** Which GLUINGS of the FIGURE give the SAME BODY. */
    private static final class Bodies {
        static final int MOST = 300;
        /** A BODY's description has 40 entries below 64: so many longs of 10 entries each. */
        private static final int LONGS = 4;
        private static final int ENTRIES = 10;

        private final Figure figure;
        private final Gluings gluings;
        private final Body body = new Body();
        private final int[] number = new int[MOST_CELLS];
        private final int[] firstSide = new int[MOST_CELLS];
        private final int[] order = new int[MOST_CELLS];
        private final int[] best = new int[MOST_SIDES];
        private final long[] described = new long[(MOST + 2) * LONGS];
        private final int[] leastOf = new int[MOST];
        boolean known;
        private boolean counted;
        int kinds;

        Bodies(Figure figure, Gluings gluings) {
            this.figure = figure;
            this.gluings = gluings;
        }

        boolean areAlike(int gluing, int other) {
            describe(gluing, MOST);
            describe(other, MOST + 1);
            return equal(MOST, MOST + 1);
        }

        /** Whether the GLUINGS are few enough to be compared; they are then. */
        boolean work() {
            if (!known) {
                known = true;
                gluings.work();
                counted = !gluings.tooMany && gluings.found <= MOST;
                kinds = 0;
                for (int i = 0; counted && i < gluings.found; i++) {
                    describe(i, i);
                    leastOf[i] = firstEqual(i);
                    kinds += leastOf[i] == i ? 1 : 0;
                }
            }
            return counted;
        }

        int leastAlike(int gluing) {
            return gluing >= 0 && gluing < MOST ? leastOf[gluing] : NONE;
        }

        private int firstEqual(int row) {
            int i = 0;
            while (i < row && !equal(i, row)) {
                i++;
            }
            return i;
        }

        private boolean equal(int row, int other) {
            for (int i = 0; i < LONGS; i++) {
                if (described[row * LONGS + i] != described[other * LONGS + i]) {
                    return false;
                }
            }
            return true;
        }

        /** The least of all descriptions of a BODY, each from one SIDE, one way round. */
        private void describe(int gluing, int row) {
            gluings.tell(gluing);
            body.fold(figure, gluings.told);
            Arrays.fill(best, MOST_SIDES);
            for (int place = 0; place < body.cells * 4; place++) {
                describeFrom(place / 4, place % 4, 1);
                describeFrom(place / 4, place % 4, 3);
            }
            for (int i = 0; i < LONGS; i++) {
                long packed = 0;
                for (int k = 0; k < ENTRIES; k++) {
                    packed = packed * 64 + best[i * ENTRIES + k];
                }
                described[row * LONGS + i] = packed;
            }
        }

        /** Tells the BODY CELL by CELL in the order in which they are come upon; sides go on by step. */
        private void describeFrom(int cell, int side, int step) {
            Arrays.fill(number, NONE);
            number[cell] = 0;
            firstSide[cell] = side;
            order[0] = cell;
            int found = 1;
            boolean less = false;
            for (int i = 0; i < body.cells * 4 && i / 4 < found; i++) {
                int from = order[i / 4];
                int place = from * 4 + (firstSide[from] + step * (i % 4)) % 4;
                int to = body.cellBehind[place];
                int entered = body.sideBehind[place];
                if (number[to] == NONE) {
                    number[to] = found;
                    firstSide[to] = entered;
                    order[found] = to;
                    found++;
                }
                int entry = number[to] * 4 + (entered - firstSide[to] + 4) * step % 4;
                if (!less && entry > best[i]) {
                    return;
                }
                less = less || entry < best[i];
                best[i] = entry;
            }
        }
    }

    /** WAYS on a BODY. */
    private static final class Ways {
        static final int LONGEST = 12;
        static final int LONGEST_SQUARE = 144;
        /** Where ROUND is kept, behind the CELLS. */
        static final int CLOSED = MOST_CELLS;

        private final Body body;
        int end;
        int turned;
        /** The CELL that the last look was from; NONE if the BODY has changed since. */
        int lookedFrom = NONE;
        private final int[] square = new int[MOST_CELLS + 1];
        final int[] many = new int[MOST_CELLS + 1];
        private final int[] firstX = new int[MOST_CELLS + 1];
        private final int[] firstY = new int[MOST_CELLS + 1];

        Ways(Body body) {
            this.body = body;
        }

        static boolean isNear(int distance) {
            return distance >= -LONGEST && distance <= LONGEST;
        }

        /** Whether there is such a WAY; its end and how it is TURNED then stand in the fields. */
        boolean go(int cell, int dx, int dy) {
            int wide = Math.abs(dx);
            int high = Math.abs(dy);
            int sideX = dx > 0 ? EAST : WEST;
            int sideY = dy > 0 ? NORTH : SOUTH;
            // A corner is told by the SIDE that it is behind.
            int between = sideX == EAST ? sideY / 2 : 3 - sideY / 2;
            int column = 0;
            int row = 0;
            end = cell;
            turned = 0;
            for (int i = 0; i < 2 * LONGEST && (column < wide || row < high); i++) {
                int sooner = (2 * column + 1) * high - (2 * row + 1) * wide;
                if (sooner == 0) {
                    if (body.turn[end * 4 + (between + turned) % 4] != WHOLE_TURN) {
                        return false;
                    }
                    cross(sideX);
                    cross(sideY);
                    column++;
                    row++;
                } else if (sooner < 0) {
                    cross(sideX);
                    column++;
                } else {
                    cross(sideY);
                    row++;
                }
            }
            return true;
        }

        private void cross(int side) {
            int place = end * 4 + (side + turned) % 4;
            end = body.cellBehind[place];
            turned = (body.sideBehind[place] + 6 - side) % 4;
        }

        /** Goes all WAYS from a CELL, in the order of dx, then dy, and keeps the shortest. */
        void look(int from) {
            if (lookedFrom == from) {
                return;
            }
            lookedFrom = from;
            Arrays.fill(many, 0);
            for (int dx = -LONGEST; dx <= LONGEST; dx++) {
                for (int dy = -LONGEST; dy <= LONGEST; dy++) {
                    int length = dx * dx + dy * dy;
                    if (length <= LONGEST_SQUARE && go(from, dx, dy)) {
                        keep(end, length, dx, dy);
                        if (length > 0 && end == from && turned == 0) {
                            keep(CLOSED, length, dx, dy);
                        }
                    }
                }
            }
        }

        private void keep(int slot, int length, int dx, int dy) {
            if (many[slot] == 0 || length < square[slot]) {
                square[slot] = length;
                firstX[slot] = dx;
                firstY[slot] = dy;
                many[slot] = 1;
            } else if (length == square[slot]) {
                many[slot]++;
            }
        }

        int tell(int slot, int what) {
            switch (what) {
                case 0:
                    return square[slot];
                case 1:
                    return many[slot];
                case 2:
                    return firstX[slot];
                default:
                    return firstY[slot];
            }
        }

        int farthestEnd() {
            int farthest = NONE;
            int length = -1;
            for (int i = 0; i < body.cells; i++) {
                if (many[i] > 0 && square[i] > length) {
                    farthest = i;
                    length = square[i];
                }
            }
            return farthest;
        }
    }

    /** CUT TREES of a BODY, and their UNFOLDINGS laid flat. */
    private static final class Unfolder {
        static final int MOST_CELLS_CUT = 8;
        private static final int MOST_PAIRS = 16;
        /** There are 369 unlike figures of 8 squares, so that this has always room. */
        private static final int ROOM = 512;

        private final Body body;
        boolean known;
        int trees;
        int good;
        int unlike;
        /** Pairs of SIDES that lie on one another, of two CELLS, each at CELL * 4 + SIDE. */
        private final int[] pairSide = new int[MOST_PAIRS];
        private final int[] pairOther = new int[MOST_PAIRS];
        private int pairs;
        private final boolean[] joined = new boolean[MOST_CELLS_CUT * 4];
        /** Of each CELL, with so many pairs joined: the least CELL that it hangs together with. */
        private final int[][] least = new int[MOST_CELLS_CUT][MOST_CELLS_CUT];
        private final int[] x = new int[MOST_CELLS_CUT];
        private final int[] y = new int[MOST_CELLS_CUT];
        private final int[] turned = new int[MOST_CELLS_CUT];
        private final int[] order = new int[MOST_CELLS_CUT];
        private int placed;
        private final long[] seen = new long[ROOM];

        Unfolder(Body body) {
            this.body = body;
        }

        void work() {
            if (known || body.cells > MOST_CELLS_CUT) {
                return;
            }
            known = true;
            trees = 0;
            good = 0;
            unlike = 0;
            Arrays.fill(seen, 0);
            for (int i = 0; i < body.cells; i++) {
                least[0][i] = i;
            }
            listPairs();
            search(0, 0);
        }

        private void listPairs() {
            pairs = 0;
            for (int place = 0; place < body.cells * 4; place++) {
                joined[place] = false;
                int other = body.cellBehind[place] * 4 + body.sideBehind[place];
                if (place / 4 < other / 4 && pairs < MOST_PAIRS) {
                    pairSide[pairs] = place;
                    pairOther[pairs] = other;
                    pairs++;
                }
            }
        }

        /** Joins, or leaves cut, each pair from this one on, so many being joined before. */
        private void search(int pair, int chosen) {
            if (chosen == body.cells - 1) {
                trees++;
                layFlat();
                keepIfGood();
                return;
            }
            if (pairs - pair < body.cells - 1 - chosen) {
                return;
            }
            int a = pairSide[pair];
            int b = pairOther[pair];
            if (least[chosen][a / 4] != least[chosen][b / 4]) {
                joinGroups(chosen, least[chosen][a / 4], least[chosen][b / 4]);
                joined[a] = true;
                joined[b] = true;
                search(pair + 1, chosen + 1);
                joined[a] = false;
                joined[b] = false;
            }
            search(pair + 1, chosen);
        }

        private void joinGroups(int chosen, int a, int b) {
            int low = Math.min(a, b);
            for (int i = 0; i < body.cells; i++) {
                int group = least[chosen][i];
                least[chosen + 1][i] = group == a || group == b ? low : group;
            }
        }

        private void layFlat() {
            Arrays.fill(turned, NONE);
            placed = 0;
            put(0, 0, 0, 0);
            for (int i = 0; i < placed; i++) {
                int cell = order[i];
                for (int side = 0; side < 4; side++) {
                    int place = cell * 4 + (side + turned[cell]) % 4;
                    int behind = body.cellBehind[place];
                    if (joined[place] && turned[behind] == NONE) {
                        int how = (body.sideBehind[place] + 6 - side) % 4;
                        put(behind, x[cell] + STEP_X[side], y[cell] + STEP_Y[side], how);
                    }
                }
            }
        }

        private void put(int cell, int column, int row, int how) {
            x[cell] = column;
            y[cell] = row;
            turned[cell] = how;
            order[placed] = cell;
            placed++;
        }

        private void keepIfGood() {
            moveToCorner(x);
            moveToCorner(y);
            long least = 0;
            for (int i = 0; i < 8; i++) {
                long squares = squaresSeen(i);
                least = i == 0 || squares < least ? squares : least;
            }
            if (Long.bitCount(least) == body.cells) {
                good++;
                keepNet(least);
            }
        }

        private void moveToCorner(int[] along) {
            int low = along[0];
            for (int i = 1; i < body.cells; i++) {
                low = Math.min(low, along[i]);
            }
            for (int i = 0; i < body.cells; i++) {
                along[i] -= low;
            }
        }

        /** The squares as bits, 8 to a row, turned and mirrored in one of 8 ways. */
        private long squaresSeen(int how) {
            int wide = 0;
            int high = 0;
            for (int i = 0; i < body.cells; i++) {
                wide = Math.max(wide, x[i]);
                high = Math.max(high, y[i]);
            }
            long squares = 0;
            for (int i = 0; i < body.cells; i++) {
                int column = (how & 1) == 0 ? x[i] : wide - x[i];
                int row = (how & 2) == 0 ? y[i] : high - y[i];
                squares |= 1L << ((how & 4) == 0 ? row * 8 + column : column * 8 + row);
            }
            return squares;
        }

        private void keepNet(long squares) {
            int slot = (int) ((squares * 0x9E3779B97F4A7C15L) >>> 55);
            for (int i = 0; i < ROOM && seen[slot] != squares; i++) {
                if (seen[slot] == 0) {
                    seen[slot] = squares;
                    unlike++;
                } else {
                    slot = (slot + 1) % ROOM;
                }
            }
        }
    }
}
