import java.util.ArrayList;
import java.util.Arrays;
import java.util.HashSet;
import java.util.List;
import java.util.Set;

/** Each bound of OUTLINES, of the best trade and of what is counted. */
final class NetBoundsTest extends Check {
    /** The OUTLINE once more: cells in each of the eight ways, the first of the rows. */
    static long outlineOf(Used x) {
        int faces = x.count(1);
        int[][] cells = new int[faces][2];
        for (int f = 0; f < faces; f++) {
            cells[f][0] = x.place(f, 0);
            cells[f][1] = x.place(f, 1);
        }
        int[] first = null;
        for (int kind = 0; kind < 8; kind++) {
            int[] row = new int[faces];
            int leastX = MOST;
            int leastY = MOST;
            int[][] turned = new int[faces][];
            for (int f = 0; f < faces; f++) {
                int a = (kind & 1) == 0 ? cells[f][0] : -cells[f][0];
                int b = (kind & 2) == 0 ? cells[f][1] : -cells[f][1];
                turned[f] = (kind & 4) == 0 ? new int[] {a, b} : new int[] {b, a};
                leastX = Math.min(leastX, turned[f][0]);
                leastY = Math.min(leastY, turned[f][1]);
            }
            for (int f = 0; f < faces; f++) {
                row[f] = 64 * (turned[f][1] - leastY) + turned[f][0] - leastX;
            }
            Arrays.sort(row);
            first = first == null || Arrays.compare(row, first) < 0 ? row : first;
        }
        long number = 17;
        for (int cell : first) {
            number = 31 * number + cell;
        }
        return number;
    }

    /** II: "turned, mirrored (8 ways)": the 384 trees of a cube have just eleven OUTLINES; 33. */
    static void elevenNets() {
        Set<Long> outlines = new HashSet<>();
        int trees = 0;
        for (int bits = 0; bits < 1 << 12; bits++) {
            if (Integer.bitCount(bits) != 5) {
                continue;
            }
            Used x = made(CUBE);
            if (hinges(x, bits) < 5) {
                due("33: a ring", x.outline(), 0);
                continue;
            }
            trees++;
            x.root(bits % 6);
            due("33: no overlaps", x.over(NONE), 0);
            due("33: outline", x.outline(), outlineOf(x));
            outlines.add(x.outline());
        }
        due("33: trees", trees, 384);
        due("33: nets of a cube", outlines.size(), 11);
    }

    /** 33: "longs, which go round": thirty cells; the ROOT does not matter. */
    static void longOutlines() {
        Used x = made(STAR);
        x.tree(0);
        due("33: overlaps", x.over(NONE), 3);
        due("33: two overlap", x.outline(), 0);
        due("12: mended", x.mend(), 2);
        long number = x.outline();
        due("33: then one", number, outlineOf(x));
        for (int root = 1; root < 30; root += 7) {
            x.root(root);
            due("33: from another root", x.outline(), number);
        }
        int hinge = ActBoundsTest.hingeOf(x, 0);
        x.cut(hinge);
        due("33: one too few", x.outline(), 0);
        x.undo();
        due("33: joined again", x.outline(), number);
        Used y = made(BENT);
        y.tree(0);
        due("33: one overlap", y.over(NONE), 1);
        due("33: none", y.outline(), 0);
        due("33: mended", y.mend(), 1);
        due("33: one", y.outline(), outlineOf(y));
        Used row = made("cube0 0 0;cube0 0 1;cube0 0 2;cube0 0 3;cube0 0 4;cube0 0 5;cube0 0 6");
        row.tree(1);
        due("33: a long row", row.outline(), outlineOf(row));
    }

    /** 34: 1, 0; NONE without it, if nothing is KEPT; -2: one of both is none. */
    static void alikes() {
        Used x = cross();
        for (int shelf : new int[] {-1, 2, LEAST, MOST, 0, 1}) {
            due("34: nothing kept, " + shelf, x.alike(shelf), NONE);
        }
        x.keep(0);
        due("34: one", x.alike(0), 1);
        due("34: nothing on 1", x.alike(1), NONE);
        due("34: no shelf -1", x.alike(-1), NONE);
        due("34: no shelf 2", x.alike(2), NONE);
        x.tree(1);
        due("34: not one", x.alike(0), 0);
        x.keep(1);
        due("34: one with 1", x.alike(1), 1);
        due("34: not with 0", x.alike(0), 0);
        x.cut(ActBoundsTest.hingeOf(x, 0));
        due("34: none now", x.alike(0), -2);
        due("34: none now, 1", x.alike(1), -2);
        x.keep(1);
        due("34: both none", x.alike(1), -2);
        x.span();
        due("34: none kept", x.alike(1), -2);
        due("34: one is kept on 0", x.alike(0), x.outline() == crossOutline() ? 1 : 0);
        Used y = made(BENT);
        y.tree(0);
        y.keep(0);
        due("34: overlaps now and kept", y.alike(0), -2);
        y.mend();
        due("34: overlaps kept", y.alike(0), -2);
        y.keep(1);
        due("34: mended", y.alike(1), 1);
        y.undo();
        due("34: overlaps now", y.alike(1), -2);
        Used z = new Used();
        z.keep(0);
        due("34: no solid now and kept", z.alike(0), -2);
        tell(z, CUBE);
        z.tree(0);
        due("34: no solid kept", z.alike(0), -2);
    }

    static long crossOutline() {
        return cross().outline();
    }

    /** 34: each two of the eleven NETS of a cube are not alike, each one is with itself. */
    static void eachTwo() {
        List<Integer> nets = new ArrayList<>();
        Set<Long> outlines = new HashSet<>();
        for (int bits = 0; bits < 1 << 12; bits++) {
            Used x = made(CUBE);
            if (Integer.bitCount(bits) == 5 && hinges(x, bits) == 5 && outlines.add(x.outline())) {
                nets.add(bits);
            }
        }
        due("34: nets", nets.size(), 11);
        for (int one : nets) {
            for (int other : nets) {
                // Longer OUTLINES ahead leave nothing behind.
                Used x = made(STAR);
                x.seek();
                x.keep(0);
                x.keep(1);
                tell(x, CUBE);
                hinges(x, one);
                x.keep(0);
                tell(x, TWO);
                x.tree(one % 2);
                x.keep(1);
                tell(x, CUBE);
                hinges(x, other);
                due("34: " + one + " and " + other, x.alike(0), one == other ? 1 : 0);
                due("34: of another solid", x.alike(1), 0);
            }
        }
    }

    static int hinges(Used x, int bits) {
        int done = 0;
        for (int e = 0; e < 12; e++) {
            done += (bits >> e & 1) == 1 && x.hinge(e) > 0 ? 1 : 0;
        }
        return done;
    }

    /** 34: NETS that differ in the first cell of their OUTLINES alone. */
    static void firstCell() {
        String[][] twos = {{"1110334426379278997475292654", "2113447016536155895535480832"},
            {"2800182646691533640797064160", "1394761477272960416655254310"},
            {"4936089723515327538800119809", "3432874816750578330642768914"}};
        for (String[] two : twos) {
            Used x = made(BENT);
            spanBy(x, two[0]);
            x.keep(0);
            due("34: itself", x.alike(0), 1);
            spanBy(x, two[1]);
            due("34: the first cell is another one", x.alike(0), 0);
            spanBy(x, two[0]);
            due("34: itself again", x.alike(0), 1);
        }
    }

    static void spanBy(Used x, String weights) {
        for (int e = 0; e < weights.length(); e++) {
            x.weigh(e, weights.charAt(e) - '0');
        }
        x.span();
        due("34: a net", x.outline() != 0 ? 1 : 0, 1);
    }

    /** 34 asks for OUTLINES, not for their numbers: of the 723 NETS of two cubes, three twos have one number. */
    static void oneNumber() {
        int[][][] twos = {
            {{0, 1, 2, 3, 5, 12, 13, 17, 19}, {0, 1, 6, 7, 9, 14, 16, 17, 18}},
            {{0, 1, 2, 5, 7, 8, 11, 12, 16}, {0, 1, 5, 6, 9, 10, 13, 14, 19}},
            {{0, 1, 2, 5, 8, 12, 15, 16, 18}, {0, 1, 6, 7, 9, 13, 16, 17, 18}}};
        long[] numbers = {13936382708070161L, 13936382649888339L, 13936382708070162L};
        for (int i = 0; i < twos.length; i++) {
            Used x = made(TWO);
            for (int which = 0; which < 2; which++) {
                tell(x, TWO);
                for (int edge : twos[i][which]) {
                    x.hinge(edge);
                }
                due("33: two OUTLINES of one number", x.outline(), numbers[i]);
                x.keep(which);
            }
            due("34: one number, two OUTLINES", x.alike(0), 0);
            due("34: itself", x.alike(1), 1);
            x.back(0);
            due("34: itself, back", x.alike(0), 1);
            due("34: one number, two OUTLINES, back", x.alike(1), 0);
        }
    }

    /** 34: mirrored: a NET and its mirror image (all turned round x) have one OUTLINE. */
    static void mirrored() {
        Used x = made(CUBE);
        Used y = made(CUBE);
        // Of y each way along z is the other way round: FACES 4 and 5 change places.
        int[] other = {0, 1, 2, 3, 5, 4};
        int[][] hinges = {{0, 2}, {2, 4}, {4, 1}, {1, 3}, {2, 5}};
        for (int[] h : hinges) {
            due("34: hinge", x.hinge(ActBoundsTest.between(x, h[0], h[1])) > 0 ? 1 : 0, 1);
            due("34: hinge", y.hinge(ActBoundsTest.between(y, other[h[0]], other[h[1]])) > 0 ? 1 : 0, 1);
        }
        due("34: mirrored", y.outline(), x.outline());
        due("34: a net", x.outline() != 0 ? 1 : 0, 1);
        x.keep(0);
        tell(x, CUBE);
        for (int[] h : hinges) {
            x.hinge(ActBoundsTest.between(x, other[h[0]], other[h[1]]));
        }
        due("34: alike", x.alike(0), 1);
    }

    /** 35: each trade is tried; "of several the least CUT EDGE, then the least HINGE". */
    static void bests() {
        int[][] runs = {{0, 0}, {1, 1}, {8, 0}, {9, 0}, {12, 0}, {10, 1}, {4, 0}};
        for (int[] run : runs) {
            tryTrades(BENT, run[0], run[1]);
            tryTrades(CUBE, run[0] % 6, run[1]);
            tryTrades(TWO, run[0] % 10, run[1]);
        }
        String tripod = "cube 0 0 0;cube 1 0 0;cube 0 1 0;cube 0 0 1";
        tryTrades(tripod, 4, 0);
        tryTrades(tripod, 4, 1);
        tryTrades(tripod, 7, 1);
        tryTrades(STAR, 2, 0);
        tryTrades(STAR, 4, 0);
        // What moves may come to where it lay itself, and to places where several lie already.
        String[] texts = {"cube 3 3 3;cube 3 3 2;cube 4 3 3;cube 2 3 3;cube 2 3 4",
            "cube 3 3 3;cube 2 3 3;cube 3 3 4;cube 3 4 3;cube 2 3 4;cube 3 5 3",
            "cube 3 3 3;cube 3 3 2;cube 3 3 1;cube 2 3 2;cube 3 4 3;cube 4 3 3",
            "cube 3 3 3;cube 3 4 3;cube 3 2 3;cube 2 2 3;cube 3 1 3", "cube 3 3 3;cube 3 3 4;cube 4 3 3;cube 4 2 3"};
        for (String text : texts) {
            int faces = made(text).count(1);
            for (int run = 0; run < 2 * faces; run++) {
                tryTrades(text, run / 2, run % 2);
            }
        }
        Used x = made(CUBE);
        for (int what = -1; what <= 3; what++) {
            due("35: not joined", x.best(what), NONE);
        }
        x.tree(0);
        for (int what = -1; what <= 3; what++) {
            due("35: what " + what, x.best(what) >= 0 ? 1 : 0, what >= 0 && what <= 2 ? 1 : 0);
        }
        due("35: most", x.best(MOST), NONE);
        due("35: least", x.best(LEAST), NONE);
        x.cut(0);
        due("35: one too few", x.best(0), NONE);
    }

    static void tryTrades(String text, int root, int kind) {
        Used x = made(text);
        x.root(root);
        x.tree(kind);
        int[] best = null;
        int edges = x.count(2);
        for (int e = 0; e < edges; e++) {
            Used y = made(text);
            y.root(root);
            y.tree(kind);
            for (int h = 0; h < edges && y.edge(e, 6) == 0; h++) {
                int many = y.trade(e, h);
                if (many >= 0) {
                    best = best == null || many < best[2] ? new int[] {e, h, many} : best;
                    y.undo();
                }
            }
        }
        for (int what = 0; what < 3; what++) {
            due("35: " + what + " of " + text, x.best(what), best[what]);
        }
    }

    /** 36: what 0 to 10. */
    static void counts() {
        Used x = new Used();
        for (int what : new int[] {-1, -2, LEAST, 11, 12, MOST}) {
            due("36: no solid, what " + what, x.count(what), NONE);
        }
        tell(x, TWO);
        int[] told = {2, 10, 20, 12, 0, 0, 1, 0, 0, 0, 20};
        for (int what = 0; what <= 10; what++) {
            due("36: told, what " + what, x.count(what), told[what]);
        }
        x.root(2);
        x.tree(0);
        x.keep(1);
        put(x, CUBE);
        int[] then = {2, 10, 20, 12, 9, 2, 10, 2, 10, 2, 20 - 9 - 2};
        for (int what = 0; what <= 10; what++) {
            due("36: then, what " + what, x.count(what), then[what]);
        }
        for (int what : new int[] {-1, -2, LEAST, 11, 12, MOST}) {
            due("36: what " + what, x.count(what), NONE);
        }
        Used star = made(STAR);
        due("36: faces", star.count(1), 30);
        due("36: edges", star.count(2), 60);
        due("36: vertices", star.count(3), 32);
    }

    public static void main(String[] args) {
        elevenNets();
        longOutlines();
        alikes();
        eachTwo();
        firstCell();
        oneNumber();
        mirrored();
        bests();
        counts();
        finish();
    }
}
