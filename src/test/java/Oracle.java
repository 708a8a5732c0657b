import java.util.ArrayList;
import java.util.Arrays;
import java.util.HashMap;
import java.util.HashSet;
import java.util.List;
import java.util.Map;
import java.util.Set;
import java.util.TreeMap;
import java.util.regex.Matcher;
import java.util.regex.Pattern;

/** The document a second time, in its plainest and slowest form, from points in space. */
final class Oracle {
    static final int NONE = -1;

    /** The skin of a solid: an edge is known by its middle, a corner by its point (all doubled). */
    static final class Skin {
        final List<int[]> cubes = new ArrayList<>();
        final List<int[]> faces = new ArrayList<>();
        final List<int[]> edges = new ArrayList<>();
        int[][] edgeOf = new int[0][];
        int[][] vertexOf = new int[0][];
        int vertices = 0;

        static int[] vector(int direction) {
            int[] v = new int[3];
            v[direction / 2] = direction % 2 == 0 ? 1 : -1;
            return v;
        }

        static int[] plus(int[] a, int[] b) {
            return new int[] {a[0] + b[0], a[1] + b[1], a[2] + b[2]};
        }

        static int[] minus(int[] a) {
            return new int[] {-a[0], -a[1], -a[2]};
        }

        static int[] sideWay(int direction, int side) {
            String[] uv = {"yz", "zy", "zx", "xz", "xy", "yx"};
            int[] v = vector("x y z".indexOf(uv[direction].charAt(side % 2)));
            return side < 2 ? v : minus(v);
        }

        boolean has(int[] at) {
            return cubes.stream().anyMatch(c -> Arrays.equals(c, at));
        }

        int[] middle(int face) {
            int[] c = cubes.get(faces.get(face)[0]);
            int[] twice = {2 * c[0], 2 * c[1], 2 * c[2]};
            return plus(twice, vector(faces.get(face)[1]));
        }

        String edgeKey(int face, int side) {
            return Arrays.toString(plus(middle(face), sideWay(faces.get(face)[1], side)));
        }

        String cornerKey(int face, int i) {
            int d = faces.get(face)[1];
            return Arrays.toString(plus(plus(middle(face), sideWay(d, i)), sideWay(d, (i + 1) % 4)));
        }

        Skin(List<int[]> told) {
            cubes.addAll(told);
            for (int c = 0; c < cubes.size(); c++) {
                for (int d = 0; d < 6; d++) {
                    if (!has(plus(cubes.get(c), vector(d)))) {
                        faces.add(new int[] {c, d});
                    }
                }
            }
            edgeOf = new int[faces.size()][4];
            Map<String, Integer> known = new HashMap<>();
            for (int f = 0; f < faces.size(); f++) {
                for (int s = 0; s < 4; s++) {
                    Integer e = known.get(edgeKey(f, s));
                    if (e == null) {
                        e = edges.size();
                        known.put(edgeKey(f, s), e);
                        edges.add(new int[] {f, NONE, s, NONE});
                    } else {
                        edges.get(e)[1] = f;
                        edges.get(e)[3] = s;
                    }
                    edgeOf[f][s] = e;
                }
            }
            findVertices();
        }

        // Corners at one point whose faces share an edge there, over and over.
        private void findVertices() {
            vertexOf = new int[faces.size()][4];
            for (int[] row : vertexOf) {
                Arrays.fill(row, NONE);
            }
            for (int f = 0; f < faces.size(); f++) {
                for (int i = 0; i < 4; i++) {
                    if (vertexOf[f][i] == NONE) {
                        spread(f, i, vertices++);
                    }
                }
            }
        }

        private void spread(int f, int i, int vertex) {
            if (vertexOf[f][i] != NONE) {
                return;
            }
            vertexOf[f][i] = vertex;
            for (int s : new int[] {i, (i + 1) % 4}) {
                int g = behind(f, s)[0];
                for (int j = 0; j < 4; j++) {
                    if (cornerKey(g, j).equals(cornerKey(f, i))) {
                        spread(g, j, vertex);
                    }
                }
            }
        }

        int[] behind(int f, int s) {
            int[] e = edges.get(edgeOf[f][s]);
            return e[0] == f && e[2] == s ? new int[] {e[1], e[3]} : new int[] {e[0], e[2]};
        }

        int bend(int e) {
            int[] row = edges.get(e);
            if (faces.get(row[0])[0] == faces.get(row[1])[0]) {
                return 0;
            }
            return faces.get(row[0])[1] == faces.get(row[1])[1] ? 1 : 2;
        }

        int around(int vertex) {
            int many = 0;
            for (int[] row : vertexOf) {
                for (int v : row) {
                    many += v == vertex ? 1 : 0;
                }
            }
            return many;
        }
    }

    static final class State {
        Skin skin = new Skin(new ArrayList<>());
        boolean[] hinge = new boolean[0];
        int[] weight = new int[0];
        int root = 0;

        State copy() {
            State s = new State();
            s.skin = skin;
            s.hinge = hinge.clone();
            s.weight = weight.clone();
            s.root = root;
            return s;
        }
    }

    final StringBuilder tape = new StringBuilder();
    State now = new State();
    final List<State> acts = new ArrayList<>();
    final State[] shelves = new State[2];
    private List<int[]> cubesRead = new ArrayList<>();

    // ---- tape

    int feed(int a, int b, int c, int d, int e) {
        if (tape.length() > 180) {
            return NONE;
        }
        for (int n : new int[] {a, b, c, d, e}) {
            for (byte one : java.nio.ByteBuffer.allocate(4).putInt(n).array()) {
                tape.append((char) (one & 255));
            }
        }
        return tape.length();
    }

    int end(int n) {
        if (n < 0 || n > tape.length()) {
            return NONE;
        }
        tape.setLength(n);
        return n;
    }

    private int fault(String text) {
        cubesRead = new ArrayList<>();
        Matcher m = Pattern.compile("[a-z]+|[0-9]+|[^ ]", Pattern.DOTALL).matcher(text);
        String due = "cube";
        List<Integer> numbers = new ArrayList<>();
        while (m.find()) {
            String token = m.group();
            int at = 8 * m.start();
            if (due.equals("cube")) {
                if (!token.equals("cube")) {
                    return at + 1;
                }
                if (cubesRead.size() == 7) {
                    return at + 3;
                }
                due = "number";
            } else if (due.equals("number")) {
                if (!token.matches("[0-9]+")) {
                    return at + 1;
                }
                if (new java.math.BigInteger(token).compareTo(java.math.BigInteger.valueOf(6)) > 0) {
                    return at + 2;
                }
                numbers.add(Integer.parseInt(token.replaceFirst("^0+(?=.)", "")));
                if (numbers.size() == 3) {
                    int[] cube = {numbers.get(0), numbers.get(1), numbers.get(2)};
                    numbers.clear();
                    if (!fits(cube)) {
                        return at + 4;
                    }
                    cubesRead.add(cube);
                    due = ";";
                }
            } else {
                if (!token.equals(";")) {
                    return at + 1;
                }
                due = "cube";
            }
        }
        if (!due.equals(";")) {
            return 8 * text.length() + 1;
        }
        return isSolid() ? NONE : 8 * text.length() + 5;
    }

    private static int[] gaps(int[] a, int[] b) {
        int[] g = {Math.abs(a[0] - b[0]), Math.abs(a[1] - b[1]), Math.abs(a[2] - b[2])};
        Arrays.sort(g);
        return g;
    }

    private boolean touch(int[] a, int[] b) {
        return Arrays.equals(gaps(a, b), new int[] {0, 0, 1});
    }

    private boolean fits(int[] cube) {
        return cubesRead.stream().noneMatch(c -> Arrays.equals(c, cube))
                && (cubesRead.isEmpty() || cubesRead.stream().anyMatch(c -> touch(c, cube)));
    }

    private boolean isSolid() {
        for (int[] a : cubesRead) {
            for (int[] b : cubesRead) {
                if (Arrays.equals(gaps(a, b), new int[] {0, 1, 1})
                        && cubesRead.stream().noneMatch(c -> touch(a, c) && touch(b, c))) {
                    return false;
                }
            }
        }
        return true;
    }

    int solid() {
        int fault = fault(tape.toString());
        tape.setLength(0);
        if (fault != NONE) {
            return -2 - fault;
        }
        now = new State();
        now.skin = new Skin(cubesRead);
        now.hinge = new boolean[now.skin.edges.size()];
        now.weight = new int[now.skin.edges.size()];
        Arrays.fill(now.weight, 1);
        acts.clear();
        return now.skin.faces.size();
    }

    // ---- shared by several

    private boolean isFace(int f) {
        return f >= 0 && f < now.skin.faces.size();
    }

    private boolean isEdge(int e) {
        return e >= 0 && e < now.skin.edges.size();
    }

    static int hinges(State s) {
        int many = 0;
        for (boolean h : s.hinge) {
            many += h ? 1 : 0;
        }
        return many;
    }

    static Set<Integer> joined(State s, int from) {
        Set<Integer> all = new HashSet<>();
        all.add(from);
        boolean more = true;
        while (more) {
            more = false;
            for (int e = 0; e < s.hinge.length; e++) {
                int[] row = s.skin.edges.get(e);
                if (s.hinge[e] && all.contains(row[0]) != all.contains(row[1])) {
                    all.add(row[0]);
                    all.add(row[1]);
                    more = true;
                }
            }
        }
        return all;
    }

    static boolean whole(State s) {
        int many = s.skin.faces.size();
        return many > 0 && joined(s, 0).size() == many;
    }

    static final int[][] GO = {{1, 0}, {0, 1}, {-1, 0}, {0, -1}};

    /** x, y, turn of each placed face. */
    static TreeMap<Integer, int[]> layout(State s) {
        TreeMap<Integer, int[]> at = new TreeMap<>();
        if (s.skin.faces.isEmpty()) {
            return at;
        }
        at.put(s.root, new int[] {0, 0, 0});
        roll(s, s.root, at);
        return at;
    }

    private static void roll(State s, int f, TreeMap<Integer, int[]> at) {
        for (int side = 0; side < 4; side++) {
            int[] g = s.skin.behind(f, side);
            if (s.hinge[s.skin.edgeOf[f][side]] && !at.containsKey(g[0])) {
                at.put(g[0], rolled(at.get(f), side, g[1]));
                roll(s, g[0], at);
            }
        }
    }

    static int[] rolled(int[] from, int side, int back) {
        int way = (side + from[2]) % 4;
        for (int turn = 0; turn < 4; turn++) {
            if ((back + turn) % 4 == (way + 2) % 4) {
                return new int[] {from[0] + GO[way][0], from[1] + GO[way][1], turn};
            }
        }
        throw new IllegalStateException();
    }

    static List<Integer> overlaps(State s) {
        List<Integer> list = new ArrayList<>();
        TreeMap<Integer, int[]> at = layout(s);
        for (int a : at.keySet()) {
            for (int b : at.keySet()) {
                if (a < b && at.get(a)[0] == at.get(b)[0] && at.get(a)[1] == at.get(b)[1]) {
                    list.add(100 * a + b);
                }
            }
        }
        return list;
    }

    private void act() {
        acts.add(now.copy());
        if (acts.size() > 10) {
            acts.remove(0);
        }
    }

    // ---- acts

    int hinge(int e) {
        if (!isEdge(e)) {
            return NONE;
        }
        if (now.hinge[e]) {
            return -2;
        }
        if (joined(now, now.skin.edges.get(e)[0]).contains(now.skin.edges.get(e)[1])) {
            return -3;
        }
        act();
        now.hinge[e] = true;
        return hinges(now);
    }

    int cut(int e) {
        if (!isEdge(e)) {
            return NONE;
        }
        if (!now.hinge[e]) {
            return -2;
        }
        act();
        now.hinge[e] = false;
        return hinges(now);
    }

    int root(int f) {
        if (!isFace(f)) {
            return NONE;
        }
        if (now.root == f) {
            return -2;
        }
        act();
        int was = now.root;
        now.root = f;
        return was;
    }

    int weigh(int e, int w) {
        if (!isEdge(e) || w < 0 || w > 9) {
            return NONE;
        }
        if (now.weight[e] == w) {
            return -2;
        }
        act();
        int was = now.weight[e];
        now.weight[e] = w;
        return was;
    }

    int span() {
        if (now.skin.faces.isEmpty()) {
            return NONE;
        }
        act();
        Arrays.fill(now.hinge, false);
        List<Integer> order = new ArrayList<>();
        for (int e = 0; e < now.hinge.length; e++) {
            order.add(e);
        }
        order.sort((a, b) -> now.weight[a] != now.weight[b] ? now.weight[a] - now.weight[b] : a - b);
        int sum = 0;
        for (int e : order) {
            int[] row = now.skin.edges.get(e);
            if (!joined(now, row[0]).contains(row[1])) {
                now.hinge[e] = true;
                sum += now.weight[e];
            }
        }
        return sum;
    }

    int tree(int kind) {
        if (now.skin.faces.isEmpty() || kind != 0 && kind != 1) {
            return NONE;
        }
        act();
        Arrays.fill(now.hinge, false);
        Set<Integer> come = new HashSet<>();
        come.add(now.root);
        if (kind == 1) {
            deeper(now.root, come);
        } else {
            List<Integer> row = new ArrayList<>(List.of(now.root));
            for (int i = 0; i < row.size(); i++) {
                for (int s = 0; s < 4; s++) {
                    int g = now.skin.behind(row.get(i), s)[0];
                    if (come.add(g)) {
                        now.hinge[now.skin.edgeOf[row.get(i)][s]] = true;
                        row.add(g);
                    }
                }
            }
        }
        int far = 0;
        for (int f = 0; f < now.skin.faces.size(); f++) {
            far = Math.max(far, path(now, now.root, f).size() - 1);
        }
        return far;
    }

    private void deeper(int f, Set<Integer> come) {
        for (int s = 0; s < 4; s++) {
            int g = now.skin.behind(f, s)[0];
            if (come.add(g)) {
                now.hinge[now.skin.edgeOf[f][s]] = true;
                deeper(g, come);
            }
        }
    }

    int trade(int e, int h) {
        if (!isEdge(e) || !isEdge(h)) {
            return NONE;
        }
        if (now.hinge[e] || !now.hinge[h]) {
            return -2;
        }
        State then = traded(e, h);
        if (!whole(now) || !whole(then)) {
            return -3;
        }
        act();
        now = then;
        return overlaps(now).size();
    }

    private State traded(int e, int h) {
        State then = now.copy();
        then.hinge[e] = true;
        then.hinge[h] = false;
        return then;
    }

    private int[] bestTrade() {
        int[] best = null;
        for (int e = 0; e < now.hinge.length; e++) {
            for (int h = 0; h < now.hinge.length; h++) {
                if (!now.hinge[e] && now.hinge[h]) {
                    State then = traded(e, h);
                    if (whole(then)) {
                        int many = overlaps(then).size();
                        if (best == null || many < best[2]) {
                            best = new int[] {e, h, many};
                        }
                    }
                }
            }
        }
        return best;
    }

    int mend() {
        if (!whole(now)) {
            return NONE;
        }
        act();
        int trades = 0;
        while (true) {
            int[] best = bestTrade();
            if (best == null || best[2] >= overlaps(now).size()) {
                return trades;
            }
            now = traded(best[0], best[1]);
            trades++;
        }
    }

    private int steps;
    private boolean tooMany;

    int seek() {
        if (now.skin.faces.isEmpty()) {
            return NONE;
        }
        steps = 0;
        tooMany = false;
        State trial = now.copy();
        Arrays.fill(trial.hinge, false);
        boolean found = firstNet(trial, new boolean[trial.hinge.length]);
        if (tooMany) {
            return -3;
        }
        if (!found) {
            return -2;
        }
        act();
        now = trial;
        return steps;
    }

    private boolean firstNet(State s, boolean[] told) {
        steps++;
        if (steps > 3000) {
            tooMany = true;
            return false;
        }
        TreeMap<Integer, int[]> at = layout(s);
        if (at.size() == s.skin.faces.size()) {
            return true;
        }
        for (int e = 0; e < told.length; e++) {
            int[] row = s.skin.edges.get(e);
            if (!told[e] && at.containsKey(row[0]) != at.containsKey(row[1])) {
                boolean first = at.containsKey(row[0]);
                int[] spot = rolled(at.get(first ? row[0] : row[1]), first ? row[2] : row[3], first ? row[3] : row[2]);
                told[e] = true;
                if (at.values().stream().noneMatch(p -> p[0] == spot[0] && p[1] == spot[1])) {
                    s.hinge[e] = true;
                    if (firstNet(s, told)) {
                        return true;
                    }
                    s.hinge[e] = false;
                }
                if (!tooMany && firstNet(s, told)) {
                    return true;
                }
                told[e] = false;
                return false;
            }
        }
        return false;
    }

    int undo() {
        if (acts.isEmpty()) {
            return NONE;
        }
        now = acts.remove(acts.size() - 1);
        return acts.size();
    }

    int keep(int shelf) {
        if (shelf != 0 && shelf != 1) {
            return NONE;
        }
        shelves[shelf] = now.copy();
        return hinges(now);
    }

    int back(int shelf) {
        if (shelf != 0 && shelf != 1) {
            return NONE;
        }
        if (shelves[shelf] == null) {
            return -2;
        }
        now = shelves[shelf].copy();
        acts.clear();
        return hinges(now);
    }

    // ---- questions

    int face(int f, int what) {
        if (!isFace(f) || what < 0 || what > 3) {
            return NONE;
        }
        int many = 0;
        for (int e : now.skin.edgeOf[f]) {
            many += now.hinge[e] ? 1 : 0;
        }
        return new int[] {now.skin.faces.get(f)[0], now.skin.faces.get(f)[1], many,
            joined(now, now.root).contains(f) ? 1 : 0}[what];
    }

    int side(int f, int s, int what) {
        if (!isFace(f) || s < 0 || s > 3 || what < 0 || what > 2) {
            return NONE;
        }
        return what == 0 ? now.skin.edgeOf[f][s] : now.skin.behind(f, s)[what - 1];
    }

    private boolean isFree(int e) {
        TreeMap<Integer, int[]> at = layout(now);
        int[] row = now.skin.edges.get(e);
        return !now.hinge[e] && at.containsKey(row[0]) && at.containsKey(row[1])
                && Arrays.equals(rolled(at.get(row[0]), row[2], row[3]), at.get(row[1]));
    }

    int edge(int e, int what) {
        if (!isEdge(e) || what < 0 || what > 7) {
            return NONE;
        }
        switch (what) {
            case 4: return now.skin.bend(e);
            case 5: return now.weight[e];
            case 6: return now.hinge[e] ? 1 : 0;
            case 7: return isFree(e) ? 1 : 0;
            default: return now.skin.edges.get(e)[what];
        }
    }

    int corner(int f, int i, int what) {
        if (!isFace(f) || i < 0 || i > 3 || what < 0 || what > 1) {
            return NONE;
        }
        int v = now.skin.vertexOf[f][i];
        return what == 0 ? v : now.skin.around(v);
    }

    int vertex(int v, int what) {
        if (v < 0 || v >= now.skin.vertices || what < 0 || what > 2) {
            return NONE;
        }
        Set<Integer> cuts = new HashSet<>();
        for (int f = 0; f < now.skin.faces.size(); f++) {
            for (int i = 0; i < 4; i++) {
                if (now.skin.vertexOf[f][i] == v) {
                    cuts.add(now.skin.edgeOf[f][i]);
                    cuts.add(now.skin.edgeOf[f][(i + 1) % 4]);
                }
            }
        }
        cuts.removeIf(e -> now.hinge[e]);
        return new int[] {now.skin.around(v), 4 - now.skin.around(v), cuts.size()}[what];
    }

    int place(int f, int what) {
        int[] at = layout(now).get(f);
        return at == null || what < 0 || what > 2 ? -1000 : at[what];
    }

    int over(int k) {
        return row(overlaps(now), k);
    }

    private static int row(List<Integer> list, int k) {
        if (k < NONE) {
            return NONE;
        }
        if (k == NONE) {
            return list.size();
        }
        return k < list.size() ? list.get(k) : -2;
    }

    int box(int what) {
        if (what < 0 || what > 3 || now.skin.faces.isEmpty()) {
            return -1000;
        }
        java.util.stream.IntStream all = layout(now).values().stream().mapToInt(p -> p[what % 2]);
        return what < 2 ? all.min().getAsInt() : all.max().getAsInt();
    }

    int part(int e) {
        if (!isEdge(e)) {
            return NONE;
        }
        if (!now.hinge[e]) {
            return -2;
        }
        State then = now.copy();
        then.hinge[e] = false;
        int bits = 0;
        for (int f : joined(now, now.root)) {
            bits |= joined(then, now.root).contains(f) ? 0 : 1 << f;
        }
        return bits;
    }

    static List<Integer> path(State s, int from, int to) {
        List<Integer> way = new ArrayList<>();
        return step(s, from, to, NONE, way) ? way : null;
    }

    private static boolean step(State s, int at, int to, int last, List<Integer> way) {
        way.add(at);
        if (at == to) {
            return true;
        }
        for (int side = 0; side < 4; side++) {
            int e = s.skin.edgeOf[at][side];
            if (e != last && s.hinge[e] && step(s, s.skin.behind(at, side)[0], to, e, way)) {
                return true;
            }
        }
        way.remove(way.size() - 1);
        return false;
    }

    int way(int f, int g, int k) {
        if (!isFace(f) || !isFace(g) || k < NONE) {
            return NONE;
        }
        List<Integer> way = path(now, f, g);
        if (way == null) {
            return -3;
        }
        return k == NONE ? way.size() - 1 : k < way.size() ? way.get(k) : -2;
    }

    int free(int k) {
        List<Integer> list = new ArrayList<>();
        for (int e = 0; e < now.hinge.length; e++) {
            if (isFree(e)) {
                list.add(e);
            }
        }
        return row(list, k);
    }

    /** Face, side, angle, partner of each side of the rim. */
    private List<int[]> rimRows() {
        List<int[]> rim = new ArrayList<>();
        int f = 0;
        int s = 0;
        while (now.hinge[now.skin.edgeOf[f][s]]) {
            f += s == 3 ? 1 : 0;
            s = (s + 1) % 4;
        }
        int angle = 0;
        while (rim.isEmpty() || rim.get(0)[0] != f || rim.get(0)[1] != s) {
            rim.add(new int[] {f, s, angle, NONE});
            angle = 1;
            s = (s + 1) % 4;
            while (now.hinge[now.skin.edgeOf[f][s]]) {
                int[] g = now.skin.behind(f, s);
                f = g[0];
                s = (g[1] + 1) % 4;
                angle++;
            }
        }
        rim.get(0)[2] = angle;
        for (int[] a : rim) {
            for (int k = 0; k < rim.size(); k++) {
                if (a != rim.get(k) && now.skin.edgeOf[a[0]][a[1]] == now.skin.edgeOf[rim.get(k)[0]][rim.get(k)[1]]) {
                    a[3] = k;
                }
            }
        }
        return rim;
    }

    int rim(int k, int what) {
        if (!whole(now) || k < NONE || what < 0 || what > 3 || k == NONE && what != 0) {
            return NONE;
        }
        List<int[]> rim = rimRows();
        return k == NONE ? rim.size() : k < rim.size() ? rim.get(k)[what] : NONE;
    }

    private String gluedState = "";
    private List<int[]> gluedRows = new ArrayList<>();

    /** Every pairing of the sides (crossing ones too, dropped as they cross), tested at its end. */
    private List<int[]> allGluings() {
        String key = Arrays.toString(now.hinge) + now.skin.faces.size() + System.identityHashCode(now.skin);
        if (!key.equals(gluedState)) {
            gluedState = key;
            gluedRows = new ArrayList<>();
            List<int[]> rim = rimRows();
            int[] with = new int[rim.size()];
            Arrays.fill(with, NONE);
            pair(with, rim);
            gluedRows.sort(Arrays::compare);
        }
        return gluedRows;
    }

    private void pair(int[] with, List<int[]> rim) {
        int open = with.length - 1;
        while (open >= 0 && with[open] != NONE) {
            open--;
        }
        if (open < 0) {
            if (points(with, rim).stream().allMatch(a -> a <= 4)) {
                gluedRows.add(with.clone());
            }
            return;
        }
        for (int k = 0; k < open; k++) {
            if (with[k] == NONE && !crosses(with, k, open)) {
                with[k] = open;
                with[open] = k;
                pair(with, rim);
                with[k] = NONE;
                with[open] = NONE;
            }
        }
    }

    private static boolean crosses(int[] with, int a, int b) {
        int open = 0;
        for (int k = a + 1; k < b; k++) {
            if (with[k] != NONE && (with[k] < a || with[k] > b)) {
                return true;
            }
            open += with[k] == NONE ? 1 : 0;
        }
        return open % 2 == 1;
    }

    static List<Integer> points(int[] with, List<int[]> rim) {
        int m = with.length;
        List<Integer> sums = new ArrayList<>();
        boolean[] seen = new boolean[m];
        // Round a point: from the begin of a side to the end of its mate, which is the begin of the next one.
        for (int k = 0; k < m; k++) {
            int sum = 0;
            for (int p = k; !seen[p]; p = (with[p] + 1) % m) {
                seen[p] = true;
                sum += rim.get(p)[2];
            }
            if (sum > 0) {
                sums.add(sum);
            }
        }
        return sums;
    }

    int gluings() {
        if (!whole(now)) {
            return NONE;
        }
        return rimRows().size() > 22 ? -3 : allGluings().size();
    }

    int glued(int g, int k) {
        if (!whole(now) || g < 0 || k < 0 || k >= rimRows().size()) {
            return NONE;
        }
        if (rimRows().size() > 22) {
            return -3;
        }
        return g < allGluings().size() ? allGluings().get(g)[k] : NONE;
    }

    int lacks(int g, int what) {
        if (!whole(now) || g < 0 || what < 0 || what > 2) {
            return NONE;
        }
        if (rimRows().size() > 22) {
            return -3;
        }
        if (g >= allGluings().size()) {
            return NONE;
        }
        List<Integer> points = points(allGluings().get(g), rimRows());
        if (what == 0) {
            return points.size();
        }
        return what == 1 ? (int) points.stream().filter(a -> a < 4).count()
            : points.stream().mapToInt(a -> a).min().getAsInt();
    }

    int itself() {
        if (gluings() < 0) {
            return gluings();
        }
        int[] partners = rimRows().stream().mapToInt(r -> r[3]).toArray();
        for (int g = 0; g < allGluings().size(); g++) {
            if (Arrays.equals(allGluings().get(g), partners)) {
                return g;
            }
        }
        return -2;
    }

    /** The cells y, x, y, x .. of the outline; null if there is none. */
    static int[] outlineOf(State s) {
        if (!whole(s) || !overlaps(s).isEmpty()) {
            return null;
        }
        int[] first = null;
        for (int kind = 0; kind < 8; kind++) {
            List<int[]> cells = new ArrayList<>();
            for (int[] at : layout(s).values()) {
                int x = kind % 2 == 0 ? at[0] : -at[0];
                int y = kind / 2 % 2 == 0 ? at[1] : -at[1];
                cells.add(kind < 4 ? new int[] {y, x} : new int[] {x, y});
            }
            int leastY = cells.stream().mapToInt(c -> c[0]).min().getAsInt();
            int leastX = cells.stream().mapToInt(c -> c[1]).min().getAsInt();
            int[] row = cells.stream().map(c -> new int[] {c[0] - leastY, c[1] - leastX})
                    .sorted(Arrays::compare).flatMapToInt(Arrays::stream).toArray();
            if (first == null || Arrays.compare(row, first) < 0) {
                first = row;
            }
        }
        return first;
    }

    long outline() {
        int[] row = outlineOf(now);
        if (row == null) {
            return 0;
        }
        long number = 17;
        for (int i = 0; i < row.length; i += 2) {
            number = 31 * number + 64 * row[i] + row[i + 1];
        }
        return number;
    }

    int alike(int shelf) {
        if (shelf != 0 && shelf != 1 || shelves[shelf] == null) {
            return NONE;
        }
        int[] a = outlineOf(now);
        int[] b = outlineOf(shelves[shelf]);
        return a == null || b == null ? -2 : Arrays.equals(a, b) ? 1 : 0;
    }

    int best(int what) {
        if (what < 0 || what > 2 || !whole(now)) {
            return NONE;
        }
        int[] best = bestTrade();
        return best == null ? -2 : best[what];
    }

    int count(int what) {
        switch (what) {
            case 0: return now.skin.cubes.size();
            case 1: return now.skin.faces.size();
            case 2: return now.skin.edges.size();
            case 3: return now.skin.vertices;
            case 4: return hinges(now);
            case 5: return now.root;
            case 6: return layout(now).size();
            case 7: return acts.size();
            case 8: return tape.length();
            case 9: return (shelves[0] == null ? 0 : 1) + (shelves[1] == null ? 0 : 2);
            case 10: return now.skin.edges.size() - hinges(now) - free(NONE);
            default: return NONE;
        }
    }
}
