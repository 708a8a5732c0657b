import java.util.ArrayList;
import java.util.Arrays;
import java.util.HashSet;
import java.util.List;
import java.util.Set;

/** Each bound of the looks at FACES, SIDES, EDGES, VERTICES and at what lies in the plane. */
final class LookBoundsTest extends Check {
    /** Six CUBES round a point: two VERTICES lie there. */
    private static final String RING = OPEN + ";cube 0 1 0";
    /** One CUBE with three round one corner: six FACES are around it. */
    private static final String TRIPOD = "cube 0 0 0;cube 1 0 0;cube 0 1 0;cube 0 0 1";
    private static final String ROW =
        "cube0 0 0;cube0 0 1;cube0 0 2;cube0 0 3;cube0 0 4;cube0 0 5;cube0 0 6";
    private static final String[] SOLIDS = {CUBE, TWO, BENT, FOUR, STAR, RING, TRIPOD, ROW,
        "cube 6 6 6;cube 6 5 6;cube 5 6 6;cube 6 6 5;cube 5 5 6;cube 5 6 5;cube 6 5 5"};
    private static final String[] LOOKS = {"yz", "zy", "zx", "xz", "xy", "yx"};

    static int[][] cubesOf(String text) {
        String[] parts = text.replaceAll("[^0-9]+", " ").trim().split(" ");
        int[][] cubes = new int[parts.length / 3][3];
        for (int i = 0; i < parts.length; i++) {
            cubes[i / 3][i % 3] = Integer.parseInt(parts[i]);
        }
        return cubes;
    }

    static int[] way(int direction) {
        int[] v = new int[3];
        v[direction / 2] = direction % 2 == 0 ? 1 : -1;
        return v;
    }

    static int[] sideWay(int direction, int side) {
        int axis = "xyz".indexOf(LOOKS[direction].charAt(side % 2));
        return way(2 * axis + side / 2);
    }

    static String sum(int[]... rows) {
        int[] all = new int[3];
        for (int[] row : rows) {
            for (int i = 0; i < 3; i++) {
                all[i] += row[i];
            }
        }
        return Arrays.toString(all);
    }

    static int[] twice(int[] cube) {
        return new int[] {2 * cube[0], 2 * cube[1], 2 * cube[2]};
    }

    /** Directions of the FACES and their CUBES, from the CUBES alone: "by CUBES, then by directions". */
    static List<int[]> facesOf(int[][] cubes) {
        Set<String> there = new HashSet<>();
        for (int[] c : cubes) {
            there.add(Arrays.toString(c));
        }
        List<int[]> faces = new ArrayList<>();
        for (int c = 0; c < cubes.length; c++) {
            for (int d = 0; d < 6; d++) {
                if (!there.contains(sum(cubes[c], way(d)))) {
                    faces.add(new int[] {c, d});
                }
            }
        }
        return faces;
    }

    static void faces() {
        for (String text : SOLIDS) {
            Used x = made(text);
            List<int[]> faces = facesOf(cubesOf(text));
            due("17: faces of " + text, x.count(1), faces.size());
            due("36: cubes", x.count(0), cubesOf(text).length);
            for (int f = 0; f < faces.size(); f++) {
                due("17: cube", x.face(f, 0), faces.get(f)[0]);
                due("17: direction", x.face(f, 1), faces.get(f)[1]);
                due("17: hinges", x.face(f, 2), 0);
                due("17: placed", x.face(f, 3), f == 0 ? 1 : 0);
            }
            for (int what = -1; what <= 4; what++) {
                boolean known = what >= 0 && what <= 3;
                due("17: what " + what, x.face(faces.size() - 1, what) >= 0 ? 1 : 0, known ? 1 : 0);
                due("17: no face", x.face(faces.size(), what), NONE);
                due("17: no face -1", x.face(-1, what), NONE);
            }
        }
        Used x = cross();
        int[] hinges = {4, 1, 2, 1, 1, 1};
        for (int f = 0; f < 6; f++) {
            due("17: hinges of " + f, x.face(f, 2), hinges[f]);
            due("17: all placed", x.face(f, 3), 1);
        }
        x.cut(x.side(1, 1, 0));
        due("17: none", x.face(1, 2), 0);
        due("17: not placed", x.face(1, 3), 0);
    }

    /** I: "SIDES 0 to 3 of a FACE look to u, v, u turned round, v turned round"; "both have an EDGE there". */
    static void sides() {
        Used one = made(CUBE);
        for (int f = 0; f < 6; f++) {
            for (int s = 0; s < 4; s++) {
                int look = "xyz".indexOf(LOOKS[f].charAt(s % 2)) * 2 + s / 2;
                due("18: behind side " + s + " of " + f, one.side(f, s, 1), look);
                int back = one.side(f, s, 2);
                due("18: looks back", sum(sideWay(look, back)).equals(sum(way(f))) ? 1 : 0, 1);
            }
        }
        for (String text : SOLIDS) {
            int[][] cubes = cubesOf(text);
            List<int[]> faces = facesOf(cubes);
            for (int f = 0; f < faces.size(); f++) {
                Used x = made(text);
                int[] face = faces.get(f);
                for (int s = 0; s < 4; s++) {
                    int[] other = faces.get(x.side(f, s, 1));
                    int back = x.side(f, s, 2);
                    String here = sum(twice(cubes[face[0]]), way(face[1]), sideWay(face[1], s));
                    String there = sum(twice(cubes[other[0]]), way(other[1]), sideWay(other[1], back));
                    due("18: both have an edge there", here.equals(there) ? 1 : 0, 1);
                    due("18: one edge", x.side(x.side(f, s, 1), back, 0), x.side(f, s, 0));
                    due("18: back again", x.side(x.side(f, s, 1), back, 1), f);
                    due("18: by that side", x.side(x.side(f, s, 1), back, 2), s);
                }
                for (int what = -1; what <= 3; what++) {
                    due("18: no side 4", x.side(f, 4, what), NONE);
                    due("18: no side -1", x.side(f, -1, what), NONE);
                    due("18: what " + what, x.side(f, 3, what) >= 0 ? 1 : 0, what >= 0 && what < 3 ? 1 : 0);
                    due("18: what " + what, x.side(f, 0, what) >= 0 ? 1 : 0, what >= 0 && what < 3 ? 1 : 0);
                    due("18: no face", x.side(faces.size(), 0, what), NONE);
                    due("18: no face -1", x.side(-1, 0, what), NONE);
                }
            }
        }
    }

    /** I: "EDGES are numbered as they come, FACE by FACE, SIDE by SIDE"; 19: "the lesser first". */
    static void edgeNumbers() {
        for (String text : SOLIDS) {
            Used x = made(text);
            int next = 0;
            for (int slot = 0; slot < 4 * x.count(1); slot++) {
                if (x.left() < 8) {
                    x = made(text);
                }
                int e = x.side(slot / 4, slot % 4, 0);
                boolean first = e == next;
                next += first ? 1 : 0;
                due("19: come already", e < next ? 1 : 0, 1);
                due("19: face", x.edge(e, first ? 0 : 1), slot / 4);
                due("19: side", x.edge(e, first ? 2 : 3), slot % 4);
            }
            due("19: all edges", next, x.count(2));
        }
    }

    /** I: BENDS 0, 1, 2; 19: what 0 to 7, EDGES 0 to the last. */
    static void edges() {
        int[][] bends = {{12, 0, 0}, {16, 4, 0}, {21, 6, 1}, {20, 12, 0}, {48, 0, 12}};
        for (int i = 0; i < SOLIDS.length; i++) {
            Used x = made(SOLIDS[i]);
            List<int[]> faces = facesOf(cubesOf(SOLIDS[i]));
            int edges = x.count(2);
            int[] many = new int[3];
            for (int e = 0; e < edges; e++) {
                int[] one = faces.get(x.edge(e, 0));
                int[] other = faces.get(x.edge(e, 1));
                int bend = one[0] == other[0] ? 0 : one[1] == other[1] ? 1 : 2;
                due("19: bend", x.edge(e, 4), bend);
                many[bend]++;
                due("19: weight", x.edge(e, 5), 1);
            }
            for (int b = 0; b < 3 && i < bends.length; b++) {
                due("19: bends " + b + " of " + SOLIDS[i], many[b], bends[i][b]);
            }
            for (int what = -1; what <= 8; what++) {
                boolean known = what >= 0 && what <= 7;
                due("19: first, what " + what, x.edge(0, what) >= 0 ? 1 : 0, known ? 1 : 0);
                due("19: last, what " + what, x.edge(edges - 1, what) >= 0 ? 1 : 0, known ? 1 : 0);
                due("19: behind the last", x.edge(edges, what), NONE);
                due("19: -1", x.edge(-1, what), NONE);
            }
        }
    }

    /** I: VERTICES "as they come, FACE by FACE, corner by corner"; corner 3 between SIDES 3 and 0. */
    static void corners() {
        for (String text : SOLIDS) {
            int[][] cubes = cubesOf(text);
            List<int[]> faces = facesOf(cubes);
            Used x = made(text);
            int vertices = x.count(3);
            List<String> points = new ArrayList<>();
            int[] round = new int[vertices];
            for (int slot = 0; slot < 4 * faces.size(); slot++) {
                int[] face = faces.get(slot / 4);
                int i = slot % 4;
                int v = x.corner(slot / 4, i, 0);
                int d = face[1];
                String at = sum(twice(cubes[face[0]]), way(d), sideWay(d, i), sideWay(d, (i + 1) % 4));
                if (v == points.size()) {
                    points.add(at);
                }
                due("20: numbered as they come", v < points.size() ? 1 : 0, 1);
                due("20: where they lie", points.get(v).equals(at) ? 1 : 0, 1);
                round[v]++;
            }
            due("36: vertices", points.size(), vertices);
            Used y = made(text);
            for (int slot = 0; slot < 4 * faces.size(); slot++) {
                due("20: faces around", y.corner(slot / 4, slot % 4, 1), round[y.corner(slot / 4, slot % 4, 0)]);
            }
            Used z = made(text);
            for (int v = 0; v < vertices; v++) {
                due("21: faces around", z.vertex(v, 0), round[v]);
                due("21: 4 less that", z.vertex(v, 1), 4 - round[v]);
                due("21: cut edges", z.vertex(v, 2), round[v]);
            }
            bounds(made(text), faces.size(), vertices);
        }
        due("20: two vertices at one point", made(RING).count(3), 26);
        Used x = made(TRIPOD);
        Set<Integer> kinds = new HashSet<>();
        for (int v = 0; v < x.count(3); v++) {
            kinds.add(x.vertex(v, 1));
        }
        due("21: 3 to 6 around", kinds.equals(Set.of(1, 0, -1, -2)) ? 1 : 0, 1);
    }

    static void bounds(Used x, int faces, int vertices) {
        for (int what = -1; what <= 3; what++) {
            boolean corner = what >= 0 && what <= 1;
            due("20: corner 0, what " + what, x.corner(faces - 1, 0, what) >= 0 ? 1 : 0, corner ? 1 : 0);
            due("20: corner 3, what " + what, x.corner(0, 3, what) >= 0 ? 1 : 0, corner ? 1 : 0);
            due("20: corner 4", x.corner(0, 4, what), NONE);
            due("20: corner -1", x.corner(0, -1, what), NONE);
            due("20: no face", x.corner(faces, 0, what), NONE);
            due("20: no face -1", x.corner(-1, 0, what), NONE);
            due("21: no vertex", x.vertex(vertices, what), NONE);
            due("21: no vertex -1", x.vertex(-1, what), NONE);
        }
        due("21: what 3", x.vertex(0, 3), NONE);
        due("21: what -1", x.vertex(0, -1), NONE);
        due("21: last", x.vertex(vertices - 1, 0) >= 3 ? 1 : 0, 1);
    }

    /** 21: "CUT EDGES that end at it": from all to none but one. */
    static void cutEdges() {
        for (String text : new String[] {CUBE, BENT, TRIPOD}) {
            Used x = made(text);
            int v = x.corner(0, 0, 0);
            int round = x.vertex(v, 0);
            int cut = round;
            for (int e = 0; e < x.count(2) && cut > 1; e++) {
                int f = x.edge(e, 0);
                int s = x.edge(e, 2);
                boolean ends = x.corner(f, s, 0) == v || x.corner(f, (s + 3) % 4, 0) == v;
                if (x.hinge(e) > 0) {
                    cut -= ends ? 1 : 0;
                    due("21: cut edges at 0", x.vertex(v, 2), cut);
                    if (!ends) {
                        x.cut(e);
                        due("21: others change nothing", x.vertex(v, 2), cut);
                    }
                }
            }
            due("21: the last one makes a ring", cut, 1);
        }
    }

    private static final int[][] GO = {{1, 0}, {0, 1}, {-1, 0}, {0, -1}};

    /** II: "SIDE s of a FACE of TURN r looks to the way s and r (of 4 the rest)"; its other SIDE "looks back". */
    static void places() {
        boolean[] sums = new boolean[7];
        for (String text : new String[] {CUBE, TWO, BENT, TRIPOD, ROW}) {
            for (int root = 0; root < 6; root++) {
                Used x = made(text);
                x.root(root);
                x.tree(root % 2);
                due("22: the root", 100 * x.place(root, 0) + 10 * x.place(root, 1) + x.place(root, 2), 0);
                for (int e = 0; e < x.count(2) && x.left() > 20; e++) {
                    if (x.edge(e, 6) == 0) {
                        continue;
                    }
                    int f = x.edge(e, 0);
                    int g = x.edge(e, 1);
                    int s = x.edge(e, 2);
                    int looks = (s + x.place(f, 2)) % 4;
                    sums[s + x.place(f, 2)] = true;
                    due("22: x beside", x.place(g, 0), x.place(f, 0) + GO[looks][0]);
                    due("22: y beside", x.place(g, 1), x.place(f, 1) + GO[looks][1]);
                    due("22: looks back", (x.edge(e, 3) + x.place(g, 2)) % 4, (looks + 2) % 4);
                    due("22: a turn", x.place(g, 2) >= 0 && x.place(g, 2) < 4 ? 1 : 0, 1);
                }
            }
        }
        for (int i = 0; i < 7; i++) {
            due("22: s and r together " + i, sums[i] ? 1 : 0, 1);
        }
        Used x = made(STAR);
        x.hinge(59);
        for (int what = -1; what <= 3; what++) {
            due("22: root, what " + what, x.place(0, what), what < 0 || what > 2 ? -1000 : 0);
            due("22: not placed", x.place(1, what), -1000);
            due("22: not placed, 29", x.place(29, what), -1000);
            due("22: no face 30", x.place(30, what), -1000);
            due("22: no face -1", x.place(-1, what), -1000);
        }
        x.tree(0);
        due("22: 29 placed", x.place(29, 2) >= 0 ? 1 : 0, 1);
        due("22: 30 not", x.place(30, 2), -1000);
    }

    /** II: "OVERLAPS: two PLACED FACES at one place", three by twos; 23: the k-th from 0 on. */
    static void overlaps() {
        Used x = made(TRIPOD);
        x.root(4);
        x.tree(0);
        int[] rows = {116, 212, 214, 815, 1113, 1214};
        due("23: how many", x.over(NONE), rows.length);
        for (int k = 0; k < rows.length; k++) {
            due("23: " + k, x.over(k), rows[k]);
            int f = rows[k] / 100;
            int g = rows[k] % 100;
            due("23: one place", x.place(f, 0) == x.place(g, 0) && x.place(f, 1) == x.place(g, 1) ? 1 : 0, 1);
        }
        due("23: not so many", x.over(rows.length), -2);
        due("23: most", x.over(MOST), -2);
        due("23: -2", x.over(-2), NONE);
        due("23: least", x.over(LEAST), NONE);
        // Of FACES not PLACED none lies over another one.
        x.cut(ActBoundsTest.between(x, 4, x.way(4, 12, 1)));
        due("23: fewer are placed", x.over(NONE) < rows.length ? 1 : 0, 1);
        due("23: none of 12", x.face(12, 3), 0);
        Used y = made(CUBE);
        due("23: root alone", y.over(NONE), 0);
        due("23: no first", y.over(0), -2);
    }

    /** 24: what 0 to 3; the ROOT alone; only PLACED FACES. */
    static void boxes() {
        Used x = made(CUBE);
        for (int what = -1; what <= 4; what++) {
            due("24: root alone " + what, x.box(what), what < 0 || what > 3 ? -1000 : 0);
        }
        int[][] boxes = {{-1, -1, 2, 1}, {0, 0, 3, 2}};
        for (int kind = 0; kind < 2; kind++) {
            x.tree(kind);
            for (int what = 0; what < 4; what++) {
                due("24: tree " + kind + " " + what, x.box(what), boxes[kind][what]);
            }
            due("24: 4", x.box(4), -1000);
            due("24: -1", x.box(-1), -1000);
        }
        x.root(3);
        x.tree(1);
        int[] far = {0, 0, 4, 1};
        for (int what = 0; what < 4; what++) {
            due("24: from 3 " + what, x.box(what), far[what]);
        }
        x.cut(ActBoundsTest.between(x, 3, x.side(3, 0, 1)));
        due("24: cut off", x.box(2), 0);
        due("24: most", x.box(MOST), -1000);
        due("24: least", x.box(LEAST), -1000);
    }

    /** 25: bits up to that of the thirtieth FACE; 0 if neither FACE is PLACED. */
    static void parts() {
        Used x = made(ROW);
        int last = ActBoundsTest.between(x, 29, x.side(29, 0, 1));
        x.hinge(last);
        due("25: neither placed", x.part(last), 0);
        x.root(29);
        due("25: one behind", x.part(last), 1 << x.side(29, 0, 1));
        x.root(x.side(29, 0, 1));
        due("25: face 29", x.part(last), 1 << 29);
        due("25: a cut one", x.part(last == 0 ? 1 : 0), -2);
        due("25: no edge 60", x.part(60), NONE);
        due("25: no edge -1", x.part(-1), NONE);
        x.root(0);
        x.tree(1);
        int all = (1 << 30) - 1;
        int first = x.way(0, 2, 1);
        due("25: all but the root", x.part(ActBoundsTest.between(x, 0, first)), all - 1);
        Used y = cross();
        for (int e = 0; e < 12; e++) {
            int part = y.part(e);
            if (y.edge(e, 6) == 0) {
                due("25: cut " + e, part, -2);
                continue;
            }
            due("25: some, not the root", part > 0 && (part & 1) == 0 ? 1 : 0, 1);
            y.cut(e);
            for (int f = 0; f < 6; f++) {
                due("25: joined no more", y.face(f, 3), (part >> f & 1) == 0 ? 1 : 0);
            }
            y.undo();
        }
    }

    /** 26: from 0 HINGES to 29; k NONE, 0, the last, one more. */
    static void ways() {
        Used x = made(ROW);
        due("26: to itself, none joined", x.way(29, 29, NONE), 0);
        due("26: itself", x.way(29, 29, 0), 29);
        due("26: no more", x.way(29, 29, 1), -2);
        due("26: not joined", x.way(0, 29, NONE), -3);
        due("26: not joined, 0", x.way(0, 29, 0), -3);
        due("26: not joined, most", x.way(0, 29, MOST), -3);
        due("26: not joined, -2", x.way(0, 29, -2), NONE);
        due("26: far by depth", x.tree(1), 29);
        int end = 0;
        for (int f = 0; f < 30; f++) {
            end = x.way(0, f, NONE) == 29 ? f : end;
        }
        due("26: k 0", x.way(0, end, 0), 0);
        due("26: k 29", x.way(0, end, 29), end);
        due("26: k 30", x.way(0, end, 30), -2);
        due("26: k most", x.way(0, end, MOST), -2);
        due("26: k -2", x.way(0, end, -2), NONE);
        due("26: k least", x.way(0, end, LEAST), NONE);
        for (int k = 0; k <= 29; k++) {
            due("26: the other way round " + k, x.way(end, 0, 29 - k), x.way(0, end, k));
            if (k > 0) {
                int e = ActBoundsTest.between(x, x.way(0, end, k - 1), x.way(0, end, k));
                due("26: by hinges " + k, e == NONE ? 0 : x.edge(e, 6), 1);
            }
        }
        for (int bad : new int[] {-1, 30, LEAST, MOST}) {
            due("26: no face " + bad, x.way(bad, 0, NONE), NONE);
            due("26: no other " + bad, x.way(0, bad, NONE), NONE);
            due("26: neither " + bad, x.way(bad, bad, 0), NONE);
        }
    }

    /** II: FREE: CUT, both PLACED, "beside one another in the plane just so that these SIDES meet"; 27. */
    static void freeOnes() {
        Used x = made(FOUR);
        x.root(2);
        x.tree(0);
        due("27: how many", x.free(NONE), 6);
        int last = -1;
        for (int k = 0; k < 6; k++) {
            int e = x.free(k);
            due("27: by numbers " + k, e > last ? 1 : 0, 1);
            due("19: free", x.edge(e, 7), 1);
            due("27: cut", x.edge(e, 6), 0);
            last = e;
        }
        due("27: not so many", x.free(6), -2);
        due("27: most", x.free(MOST), -2);
        due("27: -2", x.free(-2), NONE);
        due("27: least", x.free(LEAST), NONE);
        due("36: cut, not free", x.count(10), 32 - 15 - 6);
        int many = 0;
        for (int e = 0; e < 32; e++) {
            many += x.edge(e, 7);
        }
        due("19: as many", many, 6);
        // The same HINGES, but the ROOT is cut off: not PLACED, so none is FREE.
        for (int s = 0; s < 4; s++) {
            x.cut(x.side(2, s, 0));
        }
        due("27: root alone", x.free(NONE), 0);
        due("27: none", x.free(0), -2);
        due("36: all cut ones", x.count(10), 32 - x.count(4));
        Used y = made("cube 3 3 3;cube 3 4 3;cube 2 3 3;cube 2 4 3");
        y.root(3);
        y.tree(0);
        due("27: the first edge of all", y.free(0), 0);
        due("27: the last edge of all", y.free(5), 31);
        due("27: no more", y.free(6), -2);
        due("19: the first is free", y.edge(0, 7), 1);
        due("19: the last is free", y.edge(31, 7), 1);
        notFree(BENT, 7, 0, 26);
        notFree("cube 3 3 3;cube 3 2 3;cube 3 2 2;cube 4 2 3;cube 3 1 3", 13, 1, 39);
        notFree("cube 3 3 3;cube 2 3 3;cube 2 3 2;cube 3 3 2;cube 4 3 2;cube 3 4 2", 23, 1, 5);
    }

    /** Its FACES lie beside one another, but these SIDES do not meet. */
    static void notFree(String text, int root, int kind, int e) {
        Used x = made(text);
        x.root(root);
        x.tree(kind);
        int f = x.edge(e, 0);
        int g = x.edge(e, 1);
        int far = Math.abs(x.place(f, 0) - x.place(g, 0)) + Math.abs(x.place(f, 1) - x.place(g, 1));
        due("27: beside", far, 1);
        due("27: cut", x.edge(e, 6), 0);
        due("19: not free", x.edge(e, 7), 0);
        for (int k = 0; k < x.free(NONE); k++) {
            due("27: another one", x.free(k) == e ? 1 : 0, 0);
        }
    }

    public static void main(String[] args) {
        faces();
        sides();
        edgeNumbers();
        edges();
        corners();
        cutEdges();
        places();
        overlaps();
        boxes();
        parts();
        ways();
        freeOnes();
        finish();
    }
}
