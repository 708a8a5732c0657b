import java.util.Arrays;
import java.util.HashMap;
import java.util.HashSet;
import java.util.Map;

/**
 * All trees of HINGES on one and on two CUBES. What is due together was found by a program in another language,
 * written from the document alone; that a cube has 11 nets and two cubes have 723 is known besides (by the rule of
 * outline() three twos of the 723 have one number).
 */
final class TreesTest extends Check {
    private final String text;
    private final int faces;
    private final int[][] ends;
    private final int[] vertices = new int[2];
    private final Map<String, Long> outlines = new HashMap<>();
    private long trees = 0;
    private long gluings = 0;
    private long itself = 0;
    private long lacking = 0;
    private long overlaps = 0;
    private int most = 0;

    private TreesTest(String text) {
        this.text = text;
        Used x = made(text);
        faces = x.count(1);
        ends = new int[x.count(2)][2];
        for (int e = 0; e < ends.length; e++) {
            ends[e][0] = x.edge(e, 0);
            ends[e][1] = x.edge(e, 1);
        }
        vertices[0] = x.count(3);
        for (int v = 0; v < vertices[0]; v++) {
            vertices[1] += x.vertex(v, 1) > 0 ? 1 : 0;
        }
    }

    /** Each EDGE from this one on is CUT or, if it joins two parts, a HINGE. */
    private void grow(int edge, int[] parts, int[] hinges, int many) {
        if (many == faces - 1) {
            look(hinges);
            return;
        }
        if (ends.length - edge < faces - 1 - many) {
            return;
        }
        int one = parts[ends[edge][0]];
        int two = parts[ends[edge][1]];
        if (one != two) {
            int[] joined = parts.clone();
            for (int f = 0; f < faces; f++) {
                joined[f] = parts[f] == two ? one : parts[f];
            }
            hinges[many] = edge;
            grow(edge + 1, joined, hinges, many + 1);
        }
        grow(edge + 1, parts, hinges, many);
    }

    private void look(int[] hinges) {
        Used x = made(text);
        for (int i = 0; i < hinges.length; i++) {
            due("5: hinges", x.hinge(hinges[i]), i + 1);
        }
        trees++;
        overlaps += x.over(NONE);
        long number = x.outline();
        Long before = outlines.put(cells(x), number);
        due("33: one OUTLINE, one number", number, before == null ? number : before);
        int all = x.gluings();
        gluings += all;
        most = Math.max(most, all);
        for (int g = 0; g < all; g++) {
            lacking += x.lacks(g, 1);
            due("31: points", x.lacks(g, 0), faces + 2);
        }
        due("31: no more", x.lacks(all, 1), NONE);
        int own = x.itself();
        itself += own;
        for (int k = 0; k < 2 * faces + 2; k++) {
            due("32: each with its partner", x.glued(own, k), x.rim(k, 3));
        }
        due("32: its points are the vertices", x.lacks(own, 0), vertices[0]);
        due("32: of angles below 4", x.lacks(own, 1), vertices[1]);
        due("32: the least", x.lacks(own, 2), 3);
    }

    /** The first of eight pictures of the NET, so that NETS that are alike have one. */
    private String cells(Used x) {
        String first = "";
        int[][] at = new int[2][faces];
        for (int f = 0; f < faces; f++) {
            at[0][f] = x.place(f, 0);
            at[1][f] = x.place(f, 1);
        }
        for (int kind = 0; kind < 8; kind++) {
            String picture = picture(at[kind & 1], at[1 - (kind & 1)], (kind & 2) - 1, (kind & 4) / 2 - 1);
            if (kind == 0 || picture.compareTo(first) < 0) {
                first = picture;
            }
        }
        return first;
    }

    private static String picture(int[] xs, int[] ys, int signX, int signY) {
        int leastX = Arrays.stream(xs).map(x -> signX * x).min().getAsInt();
        int leastY = Arrays.stream(ys).map(y -> signY * y).min().getAsInt();
        int[] cells = new int[xs.length];
        for (int i = 0; i < cells.length; i++) {
            cells[i] = 64 * (signY * ys[i] - leastY) + signX * xs[i] - leastX;
        }
        Arrays.sort(cells);
        return Arrays.toString(cells);
    }

    private int numbers() {
        return new HashSet<>(outlines.values()).size();
    }

    private void all() {
        int[] parts = new int[faces];
        for (int f = 0; f < faces; f++) {
            parts[f] = f;
        }
        grow(0, parts, new int[faces - 1], 0);
    }

    public static void main(String[] args) {
        TreesTest one = new TreesTest(CUBE);
        one.all();
        due("trees of one", one.trees, 384);
        due("29: of one together", one.gluings, 5856);
        due("29: of one the most", one.most, 22);
        due("31: of one below 4 together", one.lacking, 29760);
        due("32: of one together", one.itself, 3269);
        due("23: of one together", one.overlaps, 0);
        due("33: nets of one", one.outlines.size(), 11);
        due("33: their numbers", one.numbers(), 11);
        TreesTest two = new TreesTest(TWO);
        two.all();
        due("trees of two", two.trees, 31500);
        due("29: of two together", two.gluings, 409332);
        due("29: of two the most", two.most, 36);
        due("31: of two below 4 together", two.lacking, 2489984);
        due("32: of two together", two.itself, 230823);
        due("23: of two together", two.overlaps, 0);
        due("33: nets of two", two.outlines.size(), 723);
        due("33: their numbers", two.numbers(), 720);
        finish();
    }
}
