import java.util.ArrayDeque;
import java.util.ArrayList;
import java.util.Arrays;
import java.util.Collections;
import java.util.Deque;
import java.util.HashMap;
import java.util.HashSet;
import java.util.LinkedHashMap;
import java.util.List;
import java.util.Map;
import java.util.NoSuchElementException;
import java.util.Set;
import java.util.TreeSet;
import java.util.regex.Matcher;
import java.util.regex.Pattern;

/**
 * A second telling of the document, slow and with other means (the library's collections, a tree of
 * the text, lattice points, fractions): what GluedPaper answers is compared with it.
 */
final class PaperModel {
    private static final int NONE = -1;
    private static final int[][] OUT = {{0, -1}, {1, 0}, {0, 1}, {-1, 0}};
    private static final Map<Integer, List<int[]>> MATCHINGS = new HashMap<>();

    private final StringBuilder tape = new StringBuilder();
    private TreeSet<Integer> field = new TreeSet<>(List.of(0));
    private List<int[]> cells;
    private List<int[]> rim;
    private List<Integer> quarters;
    private Deque<Map<Integer, Integer>> past = new ArrayDeque<>();
    private Deque<Map<Integer, Integer>> future = new ArrayDeque<>();
    private Map<Integer, Integer> glued = new HashMap<>();
    private final Map<Integer, Object[]> marks = new HashMap<>();
    private List<int[]> gluings;
    private int[] leastSame;

    PaperModel() {
        take(field);
    }

    // ---- the text

    @SuppressWarnings("serial")
    private static final class Wrong extends RuntimeException {
        final int fault;

        Wrong(int kind, int place) {
            super(null, null, false, false);
            fault = kind + 16 * place;
        }
    }

    private record Token(String text, int place) { }

    private interface Value {
        int in(Map<String, Integer> names);
    }

    private interface Deed {
        void on(TreeSet<Integer> sheet, Map<String, Integer> names);
    }

    private static final List<String> KEYWORDS = List.of("cell", "rect", "less", "let", "each");

    private List<Token> tokens;
    private int at;
    private Set<String> told;

    int feed(long a, long b, long c) {
        for (long part : new long[] {a, b, c}) {
            for (int i = 7; i >= 0; i--) {
                int sign = (int) (part >> 8 * i) & 0xff;
                if ((sign == 10 || sign > 31 && sign < 127) && tape.length() < 1000) {
                    tape.append((char) sign);
                }
            }
        }
        return tape.length();
    }

    int figure() {
        String text = tape.toString();
        tape.setLength(0);
        try {
            TreeSet<Integer> sheet = worked(text);
            if (sheet.isEmpty()) {
                throw new Wrong(8, text.length());
            }
            if (!inOnePiece(sheet)) {
                throw new Wrong(9, text.length());
            }
            int open = 0;
            for (int square : sheet) {
                for (int side = 0; side < 4; side++) {
                    open += sheet.contains(neighbour(square, side)) ? 0 : 1;
                }
            }
            if (rimOf(sheet).size() != open) {
                throw new Wrong(10, text.length());
            }
            take(sheet);
            return 0;
        } catch (Wrong wrong) {
            return wrong.fault;
        }
    }

    private TreeSet<Integer> worked(String text) {
        tokens = new ArrayList<>();
        Matcher matcher = Pattern.compile("[a-z]+|[0-9]+|[ \n]+|.", Pattern.DOTALL).matcher(text);
        while (matcher.find()) {
            if (!matcher.group().isBlank()) {
                tokens.add(new Token(matcher.group(), matcher.start()));
            }
        }
        tokens.add(new Token("", text.length()));
        at = 0;
        told = new HashSet<>();
        List<Deed> deeds = new ArrayList<>();
        while (!tokens.get(at).text.isEmpty()) {
            deeds.add(statement());
        }
        TreeSet<Integer> sheet = new TreeSet<>();
        Map<String, Integer> names = new HashMap<>();
        for (Deed deed : deeds) {
            deed.on(sheet, names);
        }
        return sheet;
    }

    private boolean isNumber() {
        return tokens.get(at).text.matches("[0-9]{1,4}");
    }

    private boolean isName() {
        return tokens.get(at).text.matches("[a-z]{1,8}") && !KEYWORDS.contains(tokens.get(at).text);
    }

    private Wrong wrong(int kind) {
        return new Wrong(kind, tokens.get(at).place);
    }

    private void pass(String text) {
        if (!tokens.get(at).text.equals(text)) {
            throw wrong(1);
        }
        at++;
    }

    private String newName() {
        if (!isName()) {
            throw wrong(1);
        }
        String name = tokens.get(at).text;
        if (!told.contains(name) && told.size() == 8) {
            throw wrong(5);
        }
        at++;
        return name;
    }

    private Deed statement() {
        Token word = tokens.get(at);
        Deed deed;
        if (word.text.equals("let")) {
            at++;
            String name = newName();
            Value value = expression(0);
            told.add(name);
            deed = (sheet, names) -> names.put(name, value.in(names));
        } else if (word.text.equals("each")) {
            at++;
            String name = newName();
            Value first = expression(0);
            Value last = expression(0);
            told.add(name);
            Deed step = step();
            deed = (sheet, names) -> {
                int low = first.in(names);
                int high = last.in(names);
                if ((long) high - low >= 64) {
                    throw new Wrong(4, word.place);
                }
                names.putIfAbsent(name, 0);
                for (long i = low; i <= high; i++) {
                    names.put(name, (int) i);
                    step.on(sheet, names);
                }
            };
        } else {
            deed = step();
        }
        pass(";");
        return deed;
    }

    private Deed step() {
        Token word = tokens.get(at);
        if (!List.of("cell", "rect", "less").contains(word.text)) {
            throw wrong(1);
        }
        at++;
        List<Value> values = new ArrayList<>();
        for (int i = 0; i < (word.text.equals("rect") ? 4 : 2); i++) {
            values.add(expression(0));
        }
        return (sheet, names) -> {
            int[] number = new int[values.size()];
            for (int i = 0; i < number.length; i++) {
                number[i] = values.get(i).in(names);
                if (number[i] < (i < 2 ? 0 : 1) || number[i] > (i < 2 ? 15 : 16)) {
                    throw new Wrong(4, word.place);
                }
            }
            if (word.text.equals("less")) {
                if (!sheet.remove(number[1] * 100 + number[0])) {
                    throw new Wrong(6, word.place);
                }
                return;
            }
            for (int x = 0; x < (number.length > 2 ? number[2] : 1); x++) {
                for (int y = 0; y < (number.length > 2 ? number[3] : 1); y++) {
                    if (number[0] + x > 15 || number[1] + y > 15) {
                        throw new Wrong(4, word.place);
                    }
                    sheet.add((number[1] + y) * 100 + number[0] + x);
                }
            }
            if (sheet.size() > 10) {
                throw new Wrong(7, word.place);
            }
        };
    }

    private Value expression(int within) {
        Value left = product(within);
        while (tokens.get(at).text.equals("+") || tokens.get(at).text.equals("-")) {
            boolean plus = tokens.get(at).text.equals("+");
            at++;
            Value first = left;
            Value second = product(within);
            left = names -> plus ? first.in(names) + second.in(names) : first.in(names) - second.in(names);
        }
        return left;
    }

    private Value product(int within) {
        Value left = part(within);
        while (tokens.get(at).text.equals("*")) {
            at++;
            Value first = left;
            Value second = part(within);
            left = names -> first.in(names) * second.in(names);
        }
        return left;
    }

    private Value part(int within) {
        String text = tokens.get(at).text;
        if (!isNumber() && !isName() && !text.equals("(")) {
            throw wrong(1);
        }
        if (isName() && !told.contains(text)) {
            throw wrong(2);
        }
        if (within == 5) {
            throw wrong(5);
        }
        if (isNumber()) {
            at++;
            return names -> Integer.parseInt(text);
        }
        if (isName()) {
            at++;
            return names -> names.get(text);
        }
        at++;
        Value inner = expression(within + 1);
        pass(")");
        return inner;
    }

    // ---- the figure; a square is y * 100 + x

    private static int neighbour(int square, int side) {
        int x = square % 100 + OUT[side][0];
        int y = square / 100 + OUT[side][1];
        return x < 0 || y < 0 ? -1000 : y * 100 + x;
    }

    private static boolean inOnePiece(TreeSet<Integer> sheet) {
        Set<Integer> reached = new HashSet<>();
        Deque<Integer> open = new ArrayDeque<>(List.of(sheet.first()));
        while (!open.isEmpty()) {
            int square = open.pop();
            if (sheet.contains(square) && reached.add(square)) {
                for (int side = 0; side < 4; side++) {
                    open.push(neighbour(square, side));
                }
            }
        }
        return reached.size() == sheet.size();
    }

    /** The rim as {square, side}, followed from lattice point to lattice point, as far left as can be. */
    private static List<int[]> rimOf(TreeSet<Integer> sheet) {
        Map<List<Integer>, int[]> from = new HashMap<>();
        int[][] corner = {{0, 0}, {1, 0}, {1, 1}, {0, 1}};
        for (int square : sheet) {
            for (int side = 0; side < 4; side++) {
                if (!sheet.contains(neighbour(square, side))) {
                    int x = square % 100 + corner[side][0];
                    int y = square / 100 + corner[side][1];
                    from.put(List.of(x, y, side), new int[] {square, side});
                }
            }
        }
        List<int[]> rim = new ArrayList<>();
        int x = sheet.first() % 100;
        int y = sheet.first() / 100;
        int heading = 0;
        do {
            rim.add(from.get(List.of(x, y, heading)));
            x += OUT[(heading + 1) % 4][0];
            y += OUT[(heading + 1) % 4][1];
            for (int turn : new int[] {1, 0, 3}) {
                if (from.containsKey(List.of(x, y, (heading + turn) % 4))) {
                    heading = (heading + turn) % 4;
                    break;
                }
            }
        } while (from.get(List.of(x, y, heading)) != rim.get(0));
        return rim;
    }

    private void take(TreeSet<Integer> sheet) {
        field = sheet;
        List<Integer> squares = new ArrayList<>(sheet);
        cells = new ArrayList<>();
        for (int square : squares) {
            cells.add(new int[] {square % 100, square / 100});
        }
        rim = new ArrayList<>();
        quarters = new ArrayList<>();
        for (int[] edge : rimOf(sheet)) {
            rim.add(new int[] {squares.indexOf(edge[0]), edge[1]});
        }
        for (int i = 0; i < rim.size(); i++) {
            int turn = (rim.get(i)[1] - rim.get((i + rim.size() - 1) % rim.size())[1] + 4) % 4;
            quarters.add(turn == 1 ? 1 : turn == 0 ? 2 : 3);
        }
        glued = new HashMap<>();
        past.clear();
        future.clear();
        gluings = null;
        leastSame = null;
    }

    private int cellAt(int x, int y) {
        for (int i = 0; i < cells.size(); i++) {
            if (cells.get(i)[0] == x && cells.get(i)[1] == y) {
                return i;
            }
        }
        return NONE;
    }

    private int edgeOf(int cell, int side) {
        for (int i = 0; i < rim.size(); i++) {
            if (rim.get(i)[0] == cell && rim.get(i)[1] == side) {
                return i;
            }
        }
        return NONE;
    }

    private boolean isCell(int cell) {
        return 0 <= cell && cell < cells.size();
    }

    private boolean isEdge(int edge) {
        return 0 <= edge && edge < rim.size();
    }

    int cell(int cell, int what) {
        if (!isCell(cell) || what < 0 || what > 5) {
            return NONE;
        }
        return what < 2 ? cells.get(cell)[what] : edgeOf(cell, what - 2);
    }

    int edge(int edge, int what) {
        if (!isEdge(edge) || what < 0 || what > 3) {
            return NONE;
        }
        if (what < 2) {
            return rim.get(edge)[what];
        }
        return what == 2 ? quarters.get(edge) : glued.getOrDefault(edge, NONE);
    }

    // ---- corners and gluings

    private List<Set<Integer>> cornersAsOne(Map<Integer, Integer> pairs) {
        int all = rim.size();
        List<Set<Integer>> classes = new ArrayList<>();
        for (int i = 0; i < all; i++) {
            classes.add(new TreeSet<>(List.of(i)));
        }
        for (Map.Entry<Integer, Integer> pair : pairs.entrySet()) {
            Set<Integer> one = classes.get(pair.getKey());
            Set<Integer> other = classes.get((pair.getValue() + 1) % all);
            if (one != other) {
                one.addAll(other);
                for (int i : other) {
                    classes.set(i, one);
                }
            }
        }
        return classes;
    }

    private int together(Set<Integer> corners) {
        int sum = 0;
        for (int i : corners) {
            sum += quarters.get(i);
        }
        return sum;
    }

    private boolean fits(Map<Integer, Integer> pairs) {
        for (Set<Integer> corners : cornersAsOne(pairs)) {
            if (together(corners) > 4) {
                return false;
            }
        }
        return true;
    }

    private static Map<Integer, Integer> asMap(int[] partners) {
        Map<Integer, Integer> map = new HashMap<>();
        for (int i = 0; i < partners.length; i++) {
            map.put(i, partners[i]);
        }
        return map;
    }

    /** All pairings of 0 .. n - 1 without a crossing, in order. */
    private static List<int[]> matchings(int n) {
        if (n == 0) {
            return List.of(new int[0]);
        }
        if (MATCHINGS.containsKey(n)) {
            return MATCHINGS.get(n);
        }
        List<int[]> found = new ArrayList<>();
        for (int k = 1; k < n; k += 2) {
            for (int[] inside : matchings(k - 1)) {
                for (int[] behind : matchings(n - k - 1)) {
                    int[] one = new int[n];
                    one[0] = k;
                    one[k] = 0;
                    for (int i = 0; i < inside.length; i++) {
                        one[i + 1] = inside[i] + 1;
                    }
                    for (int i = 0; i < behind.length; i++) {
                        one[k + 1 + i] = behind[i] + k + 1;
                    }
                    found.add(one);
                }
            }
        }
        MATCHINGS.put(n, found);
        return found;
    }

    private boolean fitsQuickly(int[] partners) {
        int n = partners.length;
        boolean[] done = new boolean[n];
        for (int i = 0; i < n; i++) {
            int sum = 0;
            for (int k = i; !done[k]; k = (partners[k] + 1) % n) {
                done[k] = true;
                sum += quarters.get(k);
            }
            if (sum > 4) {
                return false;
            }
        }
        return true;
    }

    private List<int[]> allGluings() {
        if (gluings == null) {
            gluings = new ArrayList<>();
            for (int[] partners : matchings(rim.size())) {
                if (fitsQuickly(partners)) {
                    gluings.add(partners);
                }
            }
            for (int i = 0; i < gluings.size() && i < 20; i++) {
                if (!fits(asMap(gluings.get(i)))) {
                    throw new IllegalStateException("the model is not at one with itself");
                }
            }
        }
        return gluings;
    }

    private boolean isGluing(int gluing) {
        return allGluings().size() <= 2000 && gluing >= 0 && gluing < allGluings().size();
    }

    int gluings() {
        return allGluings().size() > 2000 ? NONE : allGluings().size();
    }

    int partner(int gluing, int edge) {
        return isGluing(gluing) && isEdge(edge) ? allGluings().get(gluing)[edge] : NONE;
    }

    private void act(Map<Integer, Integer> then) {
        past.addLast(glued);
        if (past.size() > 40) {
            past.removeFirst();
        }
        future.clear();
        glued = then;
    }

    int glue(int a, int b) {
        if (!isEdge(a) || !isEdge(b) || a == b) {
            return 1;
        }
        if (glued.containsKey(a) || glued.containsKey(b)) {
            return 2;
        }
        for (Map.Entry<Integer, Integer> pair : glued.entrySet()) {
            int low = Math.min(pair.getKey(), pair.getValue());
            int high = Math.max(pair.getKey(), pair.getValue());
            if ((low < a && a < high) != (low < b && b < high)) {
                return 3;
            }
        }
        if ((Math.abs(a - b) - 1) % 2 == 1) {
            return 4;
        }
        Map<Integer, Integer> then = new HashMap<>(glued);
        then.put(a, b);
        then.put(b, a);
        if (!fits(then)) {
            return 5;
        }
        act(then);
        return 0;
    }

    boolean choose(int gluing) {
        if (!isGluing(gluing)) {
            return false;
        }
        act(asMap(allGluings().get(gluing)));
        return true;
    }

    boolean undo() {
        if (past.isEmpty()) {
            return false;
        }
        future.addLast(glued);
        glued = past.removeLast();
        return true;
    }

    boolean redo() {
        if (future.isEmpty()) {
            return false;
        }
        past.addLast(glued);
        glued = future.removeLast();
        return true;
    }

    int corner(int corner, int what) {
        if (!isEdge(corner) || what < 0 || what > 2) {
            return NONE;
        }
        Set<Integer> corners = cornersAsOne(glued).get(corner);
        return what == 0 ? Collections.min(corners) : what == 1 ? together(corners) : corners.size();
    }

    // ---- the body

    private boolean isBody() {
        return glued.size() == rim.size();
    }

    int lacking(int quarters) {
        if (!isBody() || quarters < 1 || quarters > 3) {
            return NONE;
        }
        int many = 0;
        for (Set<Integer> corners : new HashSet<>(cornersAsOne(glued))) {
            many += 4 - together(corners) == quarters ? 1 : 0;
        }
        return many;
    }

    private int[] across(Map<Integer, Integer> pairs, int cell, int side) {
        int edge = edgeOf(cell, side);
        if (edge != NONE) {
            return rim.get(pairs.get(edge));
        }
        int[] at = cells.get(cell);
        return new int[] {cellAt(at[0] + OUT[side][0], at[1] + OUT[side][1]), (side + 2) % 4};
    }

    private int[][] bodyOf(Map<Integer, Integer> pairs) {
        int[][] body = new int[cells.size() * 4][];
        for (int i = 0; i < body.length; i++) {
            body[i] = across(pairs, i / 4, i % 4);
        }
        return body;
    }

    /** How many corners of cells are one with that behind a side, by uniting ends of sides. */
    private static int turnOf(int[][] body, int cell, int side) {
        Set<Integer> reached = new HashSet<>();
        Deque<Integer> open = new ArrayDeque<>(List.of(cell * 4 + side));
        while (!open.isEmpty()) {
            int corner = open.pop();
            if (reached.add(corner)) {
                int[] overEnd = body[corner];
                open.push(overEnd[0] * 4 + (overEnd[1] + 3) % 4);
                int[] overStart = body[corner / 4 * 4 + (corner + 1) % 4];
                open.push(overStart[0] * 4 + overStart[1]);
            }
        }
        return reached.size();
    }

    int beyond(int cell, int side, int what) {
        if (!isBody() || !isCell(cell) || side < 0 || side > 3 || what < 0 || what > 2) {
            return NONE;
        }
        return what < 2 ? across(glued, cell, side)[what] : turnOf(bodyOf(glued), cell, side);
    }

    private static boolean areSame(int[][] one, int[][] other) {
        int cells = one.length / 4;
        for (int mirror = 0; mirror < 2; mirror++) {
            for (int start = 0; start < cells * 4; start++) {
                if (extendsFrom(one, other, start, mirror == 1)) {
                    return true;
                }
            }
        }
        return false;
    }

    private static boolean extendsFrom(int[][] one, int[][] other, int start, boolean mirrored) {
        Map<Integer, Integer> image = new LinkedHashMap<>();
        Deque<int[]> open = new ArrayDeque<>();
        open.add(new int[] {0, start});
        while (!open.isEmpty()) {
            int[] pair = open.poll();
            if (image.containsKey(pair[0])) {
                if (image.get(pair[0]) != pair[1]) {
                    return false;
                }
                continue;
            }
            for (int i = 0; i < 4; i++) {
                int side = pair[0] / 4 * 4 + (pair[0] + i) % 4;
                int imageSide = pair[1] / 4 * 4 + (pair[1] + (mirrored ? 4 - i : i)) % 4;
                if (image.containsKey(side) && image.get(side) != imageSide) {
                    return false;
                }
                image.put(side, imageSide);
                open.add(new int[] {one[side][0] * 4 + one[side][1], other[imageSide][0] * 4 + other[imageSide][1]});
            }
        }
        return image.size() == one.length && new HashSet<>(image.values()).size() == one.length;
    }

    int same(int gluing, int other) {
        if (!isGluing(gluing) || !isGluing(other)) {
            return NONE;
        }
        int[][] one = bodyOf(asMap(allGluings().get(gluing)));
        return areSame(one, bodyOf(asMap(allGluings().get(other)))) ? 1 : 0;
    }

    private int[] leastSame() {
        if (leastSame == null) {
            List<int[][]> bodies = new ArrayList<>();
            for (int[] partners : allGluings()) {
                bodies.add(bodyOf(asMap(partners)));
            }
            leastSame = new int[bodies.size()];
            for (int i = 0; i < leastSame.length; i++) {
                leastSame[i] = i;
                for (int k = 0; k < i; k++) {
                    if (leastSame[k] == k && areSame(bodies.get(i), bodies.get(k))) {
                        leastSame[i] = k;
                        break;
                    }
                }
            }
        }
        return leastSame;
    }

    int bodyOf(int gluing) {
        return allGluings().size() > 300 || !isGluing(gluing) ? NONE : leastSame()[gluing];
    }

    int bodies() {
        return allGluings().size() > 300 ? NONE : (int) Arrays.stream(leastSame()).distinct().count();
    }

    // ---- ways: a point and a heading in the cell's own measure, times a scale that keeps all whole

    private static int[] turned(int x, int y, int quarters) {
        int[] point = {x, y};
        for (int i = 0; i < quarters; i++) {
            point = new int[] {-point[1], point[0]};
        }
        return point;
    }

    /** {cell, turned}, or null. */
    private static int[] wayOn(int[][] body, int cell, int dx, int dy) {
        int scale = 2 * Math.max(1, Math.abs(dx)) * Math.max(1, Math.abs(dy));
        int half = scale / 2;
        int[] heading = {dx, dy};
        int[] point = {0, 0};
        int left = scale;
        int turned = 0;
        while (true) {
            int sooner = left;
            for (int k = 0; k < 2; k++) {
                if (heading[k] != 0) {
                    sooner = Math.min(sooner, (half - point[k] * Integer.signum(heading[k])) / Math.abs(heading[k]));
                }
            }
            point = new int[] {point[0] + sooner * heading[0], point[1] + sooner * heading[1]};
            left -= sooner;
            if (left == 0) {
                return new int[] {cell, turned};
            }
            List<Integer> through = new ArrayList<>();
            for (int side = 0; side < 4; side++) {
                boolean on = point[0] * OUT[side][0] + point[1] * OUT[side][1] == half;
                if (on && heading[0] * OUT[side][0] + heading[1] * OUT[side][1] > 0) {
                    through.add(side);
                }
            }
            if (through.size() == 2) {
                int behind = through.get(0) == 0 && through.get(1) == 3 ? 3 : through.get(0);
                if (turnOf(body, cell, behind) != 4) {
                    return null;
                }
            }
            int quartersBefore = turned;
            for (int side : through) {
                int here = (side + turned - quartersBefore) % 4;
                int[] behind = body[cell * 4 + here];
                int quarters = (behind[1] + 2 - here + 4) % 4;
                point = turned(point[0] - scale * OUT[here][0], point[1] - scale * OUT[here][1], quarters);
                heading = turned(heading[0], heading[1], quarters);
                cell = behind[0];
                turned += quarters;
            }
            turned %= 4;
        }
    }

    int way(int cell, int dx, int dy, int what) {
        if (!isBody() || !isCell(cell) || Math.abs((long) dx) > 12 || Math.abs((long) dy) > 12 || what < 0 || what > 1) {
            return NONE;
        }
        int[] end = wayOn(bodyOf(glued), cell, dx, dy);
        return end == null ? NONE : end[what];
    }

    /** {square, how many, dx, dy}, or null. */
    private int[] best(int from, int to, boolean closed) {
        int[] best = null;
        int[][] body = bodyOf(glued);
        for (int length = closed ? 1 : 0; length <= 144; length++) {
            for (int dx = -12; dx <= 12; dx++) {
                for (int dy = -12; dy <= 12; dy++) {
                    if (dx * dx + dy * dy != length) {
                        continue;
                    }
                    int[] end = wayOn(body, from, dx, dy);
                    if (end != null && end[0] == to && (!closed || end[1] == 0)) {
                        if (best == null) {
                            best = new int[] {length, 0, dx, dy};
                        }
                        best[1]++;
                    }
                }
            }
            if (best != null) {
                return best;
            }
        }
        return null;
    }

    int shortest(int from, int to, int what) {
        int[] best = isBody() && isCell(from) && isCell(to) ? best(from, to, false) : null;
        if (best == null || what < 0 || what > 3) {
            throw new NoSuchElementException();
        }
        return best[what];
    }

    int round(int cell, int what) {
        int[] best = isBody() && isCell(cell) ? best(cell, cell, true) : null;
        if (best == null || what < 0 || what > 3) {
            throw new NoSuchElementException();
        }
        return best[what];
    }

    int farthest(int cell) {
        if (!isBody() || !isCell(cell)) {
            return NONE;
        }
        int farthest = 0;
        for (int i = 0; i < cells.size(); i++) {
            if (best(cell, i, false)[0] > best(cell, farthest, false)[0]) {
                farthest = i;
            }
        }
        return farthest;
    }

    // ---- unfoldings

    int nets(int what) {
        if (!isBody() || what < 0 || what > 2 || cells.size() > 8) {
            return NONE;
        }
        int[][] body = bodyOf(glued);
        List<Integer> sides = new ArrayList<>();
        for (int i = 0; i < body.length; i++) {
            if (i < body[i][0] * 4 + body[i][1] && i / 4 != body[i][0]) {
                sides.add(i);
            }
        }
        int trees = 0;
        int good = 0;
        Set<Set<List<Integer>>> unlike = new HashSet<>();
        for (int choice = 0; choice < 1 << sides.size(); choice++) {
            if (Integer.bitCount(choice) != cells.size() - 1) {
                continue;
            }
            Set<Integer> kept = new HashSet<>();
            for (int i = 0; i < sides.size(); i++) {
                if ((choice >> i & 1) == 1) {
                    int side = sides.get(i);
                    kept.add(side);
                    kept.add(body[side][0] * 4 + body[side][1]);
                }
            }
            Map<Integer, List<Integer>> flat = new HashMap<>();
            unfold(body, kept, 0, 0, 0, 0, flat);
            if (flat.size() < cells.size()) {
                continue;
            }
            trees++;
            if (new HashSet<>(flat.values()).size() == cells.size()) {
                good++;
                unlike.add(likeness(flat.values()));
            }
        }
        return what == 0 ? trees : what == 1 ? good : unlike.size();
    }

    private static void unfold(int[][] body, Set<Integer> kept, int cell, int x, int y, int turned,
            Map<Integer, List<Integer>> flat) {
        if (flat.putIfAbsent(cell, List.of(x, y)) != null) {
            return;
        }
        for (int side = 0; side < 4; side++) {
            if (kept.contains(cell * 4 + side)) {
                int[] behind = body[cell * 4 + side];
                int towards = (side - turned + 8) % 4;
                int how = (behind[1] - towards - 2 + 8) % 4;
                unfold(body, kept, behind[0], x + OUT[towards][0], y + OUT[towards][1], how, flat);
            }
        }
    }

    private static Set<List<Integer>> likeness(Iterable<List<Integer>> squares) {
        Set<List<Integer>> least = null;
        for (int how = 0; how < 8; how++) {
            List<int[]> points = new ArrayList<>();
            int lowX = 99;
            int lowY = 99;
            for (List<Integer> square : squares) {
                int[] point = turned(how < 4 ? square.get(0) : -square.get(0), square.get(1), how % 4);
                points.add(point);
                lowX = Math.min(lowX, point[0]);
                lowY = Math.min(lowY, point[1]);
            }
            List<List<Integer>> moved = new ArrayList<>();
            for (int[] point : points) {
                moved.add(List.of(point[0] - lowX, point[1] - lowY));
            }
            moved.sort((a, b) -> a.toString().compareTo(b.toString()));
            if (least == null || moved.toString().compareTo(new ArrayList<>(least).toString()) < 0) {
                least = new java.util.LinkedHashSet<>(moved);
            }
        }
        return least;
    }

    // ---- marks and counts

    boolean mark(int mark, boolean back) {
        if (mark < 0 || mark > 3 || back && !marks.containsKey(mark)) {
            return false;
        }
        if (!back) {
            marks.put(mark, new Object[] {field, glued});
            return true;
        }
        @SuppressWarnings("unchecked")
        TreeSet<Integer> sheet = (TreeSet<Integer>) marks.get(mark)[0];
        @SuppressWarnings("unchecked")
        Map<Integer, Integer> pairs = (Map<Integer, Integer>) marks.get(mark)[1];
        take(sheet);
        glued = pairs;
        return true;
    }

    int count(int what) {
        switch (what) {
            case 0: return cells.size();
            case 1: return rim.size();
            case 2: return glued.size() / 2;
            case 3: return past.size();
            case 4: return future.size();
            case 5: return isBody() ? 1 : 0;
            case 6: return tape.length();
            default: return NONE;
        }
    }
}
