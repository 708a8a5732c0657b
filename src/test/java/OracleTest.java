import java.util.ArrayList;
import java.util.List;

/** Long runs of calls by a fixed row of numbers: each answer as the oracle's. */
final class OracleTest {
    private static long seed = 1;
    private static int wrong = 0;
    private static long calls = 0;

    static int some(int below) {
        seed = seed * 6364136223846793005L + 1442695040888963407L;
        return (int) ((seed >>> 33) % below);
    }

    static boolean rare(int oneOf) {
        return some(oneOf) == 0;
    }

    static String randomText() {
        int cubes = 1 + some(rare(6) ? 8 : 7);
        List<int[]> all = new ArrayList<>();
        int[] at = {some(7), some(7), some(7)};
        all.add(at);
        while (all.size() < cubes) {
            int[] from = all.get(some(all.size()));
            int[] next = from.clone();
            next[some(3)] += rare(2) ? 1 : -1;
            boolean in = next[0] >= 0 && next[1] >= 0 && next[2] >= 0;
            boolean low = next[0] < 7 && next[1] < 7 && next[2] < 7;
            boolean again = all.stream().anyMatch(c -> java.util.Arrays.equals(c, next));
            if (in && (low && !again || rare(60))) {
                all.add(next);
            }
        }
        StringBuilder text = new StringBuilder();
        for (int[] c : all) {
            text.append(text.length() == 0 ? "" : ";").append(rare(4) ? " " : "").append("cube").append(rare(3) ? "" : " ");
            for (int axis = 0; axis < 3; axis++) {
                text.append(axis > 0 ? " " : "").append(rare(30) ? "0" : "").append(c[axis]).append(rare(9) ? " " : "");
            }
        }
        if (rare(4)) {
            int k = some(text.length());
            String odd = "cube 0156789;x" + (char) 0 + (char) 255;
            text.setCharAt(k, odd.charAt(some(odd.length())));
        }
        if (rare(8)) {
            text.setLength(some(text.length() + 1));
        }
        return text.toString();
    }

    static void check(String call, long got, long want) {
        calls++;
        if (got != want) {
            wrong++;
            if (wrong < 20) {
                System.out.println(call + " answered " + got + ", due is " + want);
            }
        }
    }

    static void tell(SolidsUnfolded x, Oracle o, String text) {
        StringBuilder full = new StringBuilder(text);
        while (full.length() % 20 != 0) {
            full.append('z');
        }
        check("end", x.end(0), o.end(0));
        for (int k = 0; k < full.length(); k += 20) {
            int[] n = new int[5];
            for (int i = 0; i < 20; i++) {
                n[i / 4] = n[i / 4] << 8 | full.charAt(k + i);
            }
            check("feed", x.feed(n[0], n[1], n[2], n[3], n[4]), o.feed(n[0], n[1], n[2], n[3], n[4]));
        }
        check("count(8)", x.count(8), o.count(8));
        int n = Math.min(200, text.length()) + (rare(30) ? some(5) - 2 : 0);
        check("end " + n, x.end(n), o.end(n));
        check("solid " + text, x.solid(), o.solid());
    }

    static void act(SolidsUnfolded x, Oracle o) {
        int e = some(o.now.skin.edges.size() + 3) - 1;
        int h = some(o.now.skin.edges.size() + 3) - 1;
        int w = some(12) - 1;
        int f = some(o.now.skin.faces.size() + 2) - 1;
        int shelf = some(4) - 1;
        switch (some(20)) {
            case 0: check("hinge " + e, x.hinge(e), o.hinge(e)); break;
            case 1: check("cut " + e, x.cut(e), o.cut(e)); break;
            case 2: case 3: check("root " + f, x.root(f), o.root(f)); break;
            case 4: case 5: case 6: check("weigh " + e + " " + w, x.weigh(e, w), o.weigh(e, w)); break;
            case 7: case 8: check("span", x.span(), o.span()); break;
            case 9: case 10: check("tree " + w % 3, x.tree(w % 3), o.tree(w % 3)); break;
            case 11: case 12: case 13: check("trade " + e + " " + h, x.trade(e, h), o.trade(e, h)); break;
            case 14: if (rare(4)) { check("mend", x.mend(), o.mend()); } break;
            case 15: if (rare(3)) { check("seek", x.seek(), o.seek()); } break;
            case 16: check("undo", x.undo(), o.undo()); break;
            case 17: check("keep " + shelf, x.keep(shelf), o.keep(shelf)); break;
            case 18: check("back " + shelf, x.back(shelf), o.back(shelf)); break;
            default: for (int i = 0; i < 9; i++) {
                int k = some(o.now.skin.edges.size() + 2) - 1;
                check("hinge " + k, x.hinge(k), o.hinge(k));
            }
        }
    }

    static void askOne(SolidsUnfolded x, Oracle o) {
        int what = some(10) - 1;
        int f = some(o.now.skin.faces.size() + 2) - 1;
        int g = some(o.now.skin.faces.size() + 2) - 1;
        int e = some(o.now.skin.edges.size() + 2) - 1;
        int k = some(12) - 2;
        int s = some(6) - 1;
        int big = some(66) - 2;
        check("face", x.face(f, what), o.face(f, what));
        check("side", x.side(f, s, what), o.side(f, s, what));
        check("edge", x.edge(e, what), o.edge(e, what));
        check("corner", x.corner(f, s, what), o.corner(f, s, what));
        check("vertex", x.vertex(e, what), o.vertex(e, what));
        check("place", x.place(f, what), o.place(f, what));
        check("over", x.over(k), o.over(k));
        check("box", x.box(what), o.box(what));
        check("part", x.part(e), o.part(e));
        check("way", x.way(f, g, k), o.way(f, g, k));
        check("free", x.free(k), o.free(k));
        check("rim", x.rim(big, what), o.rim(big, what));
        check("count", x.count(k + 2), o.count(k + 2));
        if (o.rim(NONE, 0) > 22 || rare(3)) {
            int number = some(40) - 1;
            check("gluings", x.gluings(), o.gluings());
            check("glued", x.glued(number, big), o.glued(number, big));
            check("lacks", x.lacks(number, what), o.lacks(number, what));
            check("itself", x.itself(), o.itself());
        }
        check("outline", x.outline(), o.outline());
        check("alike", x.alike(s - 1), o.alike(s - 1));
        if (rare(12)) {
            check("best", x.best(s), o.best(s));
        }
    }

    private static final int NONE = -1;

    static void askAll(SolidsUnfolded x, Oracle o) {
        for (int f = -1; f <= o.now.skin.faces.size(); f++) {
            for (int s = -1; s < 5; s++) {
                for (int what = -1; what < 4; what++) {
                    check("face", x.face(f, what), o.face(f, what));
                    check("side", x.side(f, s, what), o.side(f, s, what));
                    check("corner", x.corner(f, s, what), o.corner(f, s, what));
                    check("place", x.place(f, what), o.place(f, what));
                }
            }
        }
        for (int e = -1; e <= o.now.skin.edges.size(); e++) {
            for (int what = -1; what < 9; what++) {
                check("edge", x.edge(e, what), o.edge(e, what));
                check("vertex", x.vertex(e, what), o.vertex(e, what));
            }
            check("part", x.part(e), o.part(e));
        }
        for (int k = -2; k < 64; k++) {
            check("over", x.over(k), o.over(k));
            check("free", x.free(k), o.free(k));
            for (int what = -1; what < 5; what++) {
                check("rim", x.rim(k, what), o.rim(k, what));
            }
        }
    }

    static void askGluings(SolidsUnfolded x, Oracle o) {
        for (int g = -1; g <= Math.max(0, o.gluings()); g++) {
            for (int k = -1; k <= 22; k++) {
                check("glued", x.glued(g, k), o.glued(g, k));
            }
            for (int what = -1; what < 4; what++) {
                check("lacks", x.lacks(g, what), o.lacks(g, what));
            }
        }
    }

    /** Trees by random weights: their best trades, what mending makes of them, and their outlines. */
    static void askTrees(int runs) {
        for (int run = 0; run < runs; run++) {
            seed = 500000 + run;
            SolidsUnfolded x = new SolidsUnfolded();
            Oracle o = new Oracle();
            tell(x, o, randomText());
            int edges = o.now.skin.edges.size();
            for (int i = 0; i < edges; i++) {
                int weight = some(10);
                check("weigh", x.weigh(i, weight), o.weigh(i, weight));
            }
            int face = some(31);
            check("root", x.root(face), o.root(face));
            check("span", x.span(), o.span());
            check("overlaps", x.over(NONE), o.over(NONE));
            check("outline", x.outline(), o.outline());
            if (o.over(NONE) > 0 || rare(8)) {
                for (int what = 0; what < 3; what++) {
                    check("best " + what, x.best(what), o.best(what));
                }
                check("mend", x.mend(), o.mend());
            } else {
                check("seek", x.seek(), o.seek());
            }
            check("outline after", x.outline(), o.outline());
            for (int i = 0; i < edges; i++) {
                check("hinge", x.edge(i, 6), o.edge(i, 6));
            }
        }
    }

    public static void main(String[] args) {
        int runs = args.length > 0 ? Integer.parseInt(args[0]) : 150;
        for (int run = 0; run < runs; run++) {
            seed = 1000 + run;
            SolidsUnfolded x = new SolidsUnfolded();
            Oracle o = new Oracle();
            for (int i = 0; i < 60; i++) {
                if (i == 2 || rare(15)) {
                    tell(x, o, rare(4) ? "cube 0 0 0" : rare(3) ? "cube 3 2 1; cube 3 2 0" : randomText());
                }
                for (int acts = some(3); acts >= 0; acts--) {
                    act(x, o);
                }
                askOne(x, o);
            }
            askAll(x, o);
            if (rare(3)) {
                askGluings(x, o);
            }
        }
        for (int i = 0; i < 20 * runs; i++) {
            seed = 77000 + i;
            tell(new SolidsUnfolded(), new Oracle(), randomText());
        }
        askTrees(3 * runs);
        System.out.println(calls + " calls, " + wrong + " wrong");
        if (wrong != 0) {
            System.exit(1);
        }
    }
}
