import java.util.ArrayList;
import java.util.Arrays;
import java.util.List;

/** Each bound of the RIM and of its GLUINGS: just inside, at it, just past it. */
final class RimBoundsTest extends Check {
    private static final String ROW =
        "cube0 0 0;cube0 0 1;cube0 0 2;cube0 0 3;cube0 0 4;cube0 0 5;cube0 0 6";
    private static final String TRIPOD = "cube 0 0 0;cube 1 0 0;cube 0 1 0;cube 0 0 1";

    static Used tree(String text, int root, int kind) {
        Used x = made(text);
        x.root(root);
        x.tree(kind);
        return x;
    }

    /** II: where the RIM begins, what comes behind a SIDE (SIDE 0 behind SIDE 3), ANGLES, PARTNERS; 28. */
    static void rims() {
        boolean[] angles = new boolean[7];
        for (String text : new String[] {CUBE, TWO, BENT, FOUR, TRIPOD, ROW}) {
            for (int run = 0; run < 12; run++) {
                walk(tree(text, run / 2, run % 2), angles);
            }
        }
        for (int angle = 0; angle <= 6; angle++) {
            due("28: angles of " + angle, angles[angle] ? 1 : 0, angle == 0 ? 0 : 1);
        }
    }

    static void walk(Used x, boolean[] angles) {
        int sides = x.rim(NONE, 0);
        due("28: all sides that are cut", sides, 4 * x.count(1) - 2 * x.count(4));
        int f = 0;
        int s = 0;
        while (x.edge(x.side(f, s, 0), 6) == 1) {
            f += s == 3 ? 1 : 0;
            s = (s + 1) % 4;
        }
        int k = 0;
        while (k < sides && x.left() > 40) {
            due("28: face of " + k, x.rim(k, 0), f);
            due("28: side of " + k, x.rim(k, 1), s);
            int mate = x.rim(k, 3);
            due("28: partner of " + k, 4 * x.rim(mate, 0) + x.rim(mate, 1), 4 * x.side(f, s, 1) + x.side(f, s, 2));
            int angle = 1;
            s = (s + 1) % 4;
            while (x.edge(x.side(f, s, 0), 6) == 1) {
                int other = x.side(f, s, 1);
                s = (x.side(f, s, 2) + 1) % 4;
                f = other;
                angle++;
            }
            k++;
            due("28: angle ahead of " + k, x.rim(k % sides, 2), angle);
            angles[angle] = true;
        }
    }

    static void rimBounds() {
        for (String text : new String[] {CUBE, TWO, BENT, STAR}) {
            Used x = tree(text, 0, 0);
            int sides = 2 * x.count(1) + 2;
            due("28: how many", x.rim(NONE, 0), sides);
            for (int what = -1; what <= 4; what++) {
                boolean known = what >= 0 && what <= 3;
                due("28: NONE, " + what, x.rim(NONE, what), what == 0 ? sides : NONE);
                due("28: first, " + what, x.rim(0, what) >= 0 ? 1 : 0, known ? 1 : 0);
                due("28: last, " + what, x.rim(sides - 1, what) >= 0 ? 1 : 0, known ? 1 : 0);
                due("28: behind the last, " + what, x.rim(sides, what), NONE);
                due("28: -2, " + what, x.rim(-2, what), NONE);
                due("28: most, " + what, x.rim(MOST, what), NONE);
                due("28: least, " + what, x.rim(LEAST, what), NONE);
            }
            int all = 0;
            for (int k = 0; k < sides; k++) {
                all += x.rim(k, 2);
            }
            due("28: angles of all corners", all, 4 * x.count(1));
            x.cut(x.side(0, 0, 0));
            due("28: one hinge too few", x.count(4), x.count(1) - 2);
            due("28: not all joined", x.rim(NONE, 0), NONE);
            due("28: not all joined, 0", x.rim(0, 0), NONE);
            due("29: not all joined", x.gluings(), NONE);
            due("30: not all joined", x.glued(0, 0), NONE);
            due("31: not all joined", x.lacks(0, 0), NONE);
            due("32: not all joined", x.itself(), NONE);
            x.undo();
            due("28: joined again", x.rim(NONE, 0), sides);
        }
    }

    /** All rows of twos of which none lies half between another one, by the first one's mate. */
    static void pair(int[] with, List<int[]> rows) {
        int one = 0;
        while (one < with.length && with[one] != NONE) {
            one++;
        }
        if (one == with.length) {
            rows.add(with.clone());
            return;
        }
        for (int two = one + 1; two < with.length && with[two] == NONE; two += 2) {
            with[one] = two;
            with[two] = one;
            pair(with, rows);
            with[one] = NONE;
            with[two] = NONE;
        }
    }

    /** ANGLES of the points: the corner ahead of a SIDE is one with that behind its mate. */
    static List<Integer> points(int[] with, int[] angles) {
        List<Integer> sums = new ArrayList<>();
        boolean[] seen = new boolean[with.length];
        for (int k = 0; k < with.length; k++) {
            int sum = 0;
            for (int p = k; !seen[p]; p = (with[p] + 1) % with.length) {
                seen[p] = true;
                sum += angles[p];
            }
            if (sum > 0) {
                sums.add(sum);
            }
        }
        return sums;
    }

    static int[] row(Used x, int what) {
        int[] row = new int[x.rim(NONE, 0)];
        for (int k = 0; k < row.length; k++) {
            row[k] = x.rim(k, what);
        }
        return row;
    }

    /** II: GLUINGS: all rows are looked at, "ANGLES .. are 4 at most" (not 3, not 5); 29 to 32. */
    static void gluings() {
        int three = 0;
        int four = 0;
        int five = 0;
        for (String text : new String[] {CUBE, TWO}) {
            for (int run = 0; run < 12; run++) {
                Used x = tree(text, run / 2, run % 2);
                int[] angles = row(x, 2);
                List<int[]> all = new ArrayList<>();
                int[] with = new int[angles.length];
                Arrays.fill(with, NONE);
                pair(with, all);
                due("29: rows looked at", all.size(), angles.length == 14 ? 429 : 58786);
                List<int[]> due = new ArrayList<>();
                for (int[] one : all) {
                    int most = points(one, angles).stream().mapToInt(a -> a).max().getAsInt();
                    three += most <= 3 ? 1 : 0;
                    five += most <= 5 ? 1 : 0;
                    if (most <= 4) {
                        four++;
                        due.add(one);
                    }
                }
                oneRim(text, run, due, row(x, 3), angles);
            }
        }
        due("29: of 3 at most there were fewer", three < four ? 1 : 0, 1);
        due("29: of 5 at most there were more", four < five ? 1 : 0, 1);
    }

    static void oneRim(String text, int run, List<int[]> due, int[] partners, int[] angles) {
        Used x = tree(text, run / 2, run % 2);
        int many = due.size();
        due("29: how many", x.gluings(), many);
        for (int g = 0; g < many; g++) {
            int[] one = due.get(g);
            Used y = tree(text, run / 2, run % 2);
            for (int k = 0; k < one.length; k++) {
                due("30: " + g + " " + k, y.glued(g, k), one[k]);
            }
            List<Integer> points = points(one, angles);
            due("31: points", y.lacks(g, 0), points.size());
            due("31: below 4", y.lacks(g, 1), points.stream().filter(a -> a < 4).count());
            due("31: least", y.lacks(g, 2), points.stream().mapToInt(a -> a).min().getAsInt());
            if (Arrays.equals(one, partners)) {
                due("32: that of the solid", y.itself(), g);
            }
        }
        manyOfOne(text, run, due, angles);
        int sides = partners.length;
        x.glued(many - 1, 0);
        for (int k : new int[] {-1, sides, sides + 1, 22, 23, LEAST, MOST}) {
            due("30: no side " + k, x.glued(0, k), NONE);
            due("30: no side " + k + " of the last", x.glued(many - 1, k), NONE);
        }
        for (int g : new int[] {-1, many, many + 1, 63, 64, LEAST, MOST}) {
            due("30: no gluing " + g, x.glued(g, 0), NONE);
            due("30: no gluing " + g, x.glued(g, sides - 1), NONE);
            for (int what = -1; what <= 3; what++) {
                due("31: no gluing " + g, x.lacks(g, what), NONE);
            }
        }
        for (int what = -1; what <= 3; what++) {
            boolean known = what >= 0 && what <= 2;
            due("31: first, " + what, x.lacks(0, what) >= 0 ? 1 : 0, known ? 1 : 0);
            due("31: last, " + what, x.lacks(many - 1, what) >= 0 ? 1 : 0, known ? 1 : 0);
        }
    }

    /** One object asked for all GLUINGS, from the last to the first and up again: none leaves anything behind. */
    static void manyOfOne(String text, int run, List<int[]> due, int[] angles) {
        Used x = tree(text, run / 2, run % 2);
        int many = due.size();
        for (int i = 0; i < 2 * many; i++) {
            int g = i < many ? many - 1 - i : i - many;
            List<Integer> points = points(due.get(g), angles);
            due("31: points of " + g, x.lacks(g, 0), points.size());
            due("31: below 4 of " + g, x.lacks(g, 1), points.stream().filter(a -> a < 4).count());
            due("30: first of " + g, x.glued(g, 0), due.get(g)[0]);
            due("31: least of " + g, x.lacks(g, 2), points.stream().mapToInt(a -> a).min().getAsInt());
            due("30: last of " + g, x.glued(g, angles.length - 1), due.get(g)[angles.length - 1]);
            due("30: none behind the last", x.glued(many, 0), NONE);
        }
    }

    /** 29: "-3: the RIM has more than 22 SIDES": 22 at TWO, 30 at the next; 30, 31: "for any g of 0 and more". */
    static void tooManySides() {
        Used two = tree(TWO, 0, 0);
        due("29: 22 sides", two.rim(NONE, 0), 22);
        due("29: not too many", two.gluings() > 0 ? 1 : 0, 1);
        due("30: side 21", two.glued(0, 21) >= 0 ? 1 : 0, 1);
        due("30: no side 22", two.glued(0, 22), NONE);
        due("32: not too many", two.itself() >= 0 ? 1 : 0, 1);
        for (String text : new String[] {BENT, "cube 0 0 0;cube 0 1 0;cube 0 2 0", FOUR, STAR}) {
            Used x = made(text);
            due("29: not joined", x.gluings(), NONE);
            x.tree(1);
            int sides = x.rim(NONE, 0);
            due("29: too many", x.gluings(), -3);
            due("32: too many", x.itself(), -3);
            for (int g : new int[] {0, 1, 35, 36, 63, 64, 1000000, MOST}) {
                due("30: any " + g, x.glued(g, 0), -3);
                due("30: any " + g + ", last side", x.glued(g, sides - 1), -3);
                due("30: any " + g + ", no side", x.glued(g, sides), NONE);
                due("30: any " + g + ", side -1", x.glued(g, -1), NONE);
                for (int what = -1; what <= 3; what++) {
                    due("31: any " + g, x.lacks(g, what), what < 0 || what > 2 ? NONE : -3);
                }
            }
            for (int g : new int[] {-1, -2, LEAST}) {
                due("30: below 0", x.glued(g, 0), NONE);
                due("31: below 0", x.lacks(g, 0), NONE);
            }
        }
    }

    /** What is known of a RIM is found anew after each change. */
    static void anew() {
        Used x = tree(CUBE, 0, 0);
        due("29: the cross", x.gluings(), 17);
        due("32: the cross", x.itself(), 5);
        x.tree(1);
        due("29: by depth", x.gluings(), 15);
        due("32: by depth", x.itself(), 12);
        x.undo();
        due("32: undone", x.itself(), 5);
        x.keep(0);
        tell(x, TWO);
        due("29: all cut", x.gluings(), NONE);
        x.tree(0);
        due("32: of two", x.itself(), 15);
        x.back(0);
        due("32: back", x.itself(), 5);
        due("28: back", x.rim(NONE, 0), 14);
        // Another ROOT alone changes no RIM.
        x.root(4);
        due("32: another root", x.itself(), 5);
        due("29: another root", x.gluings(), 17);
    }

    public static void main(String[] args) {
        rims();
        rimBounds();
        gluings();
        tooManySides();
        anew();
        finish();
    }
}
