import java.util.ArrayList;
import java.util.List;

/** Long runs of calls by a fixed row of numbers: each answer as the oracle's. */
final class OracleTest extends Check {
    private static long seed = 1;

    static int some(int below) {
        seed = seed * 6364136223846793005L + 1442695040888963407L;
        return (int) ((seed >>> 33) % below);
    }

    static boolean rare(int oneOf) {
        return some(oneOf) == 0;
    }

    static String randomText() {
        int cubes = 1 + some(rare(6) ? 8 : 7);
        List<int[]> all = new ArrayList<>();
        int[] at = {some(7), some(7), some(7)};
        all.add(at);
        while (all.size() < cubes) {
            int[] from = all.get(some(all.size()));
            int[] next = from.clone();
            next[some(3)] += rare(2) ? 1 : -1;
            boolean in = next[0] >= 0 && next[1] >= 0 && next[2] >= 0;
            boolean low = next[0] < 7 && next[1] < 7 && next[2] < 7;
            boolean again = all.stream().anyMatch(c -> java.util.Arrays.equals(c, next));
            if (in && (low && !again || rare(60))) {
                all.add(next);
            }
        }
        StringBuilder text = new StringBuilder();
        for (int[] c : all) {
            text.append(text.length() == 0 ? "" : ";").append(rare(4) ? " " : "");
            text.append("cube").append(rare(3) ? "" : " ");
            for (int axis = 0; axis < 3; axis++) {
                text.append(axis > 0 ? " " : "").append(rare(30) ? "0" : "").append(c[axis]).append(rare(9) ? " " : "");
            }
        }
        if (rare(4)) {
            int k = some(text.length());
            String odd = "cube 0156789;x" + (char) 0 + (char) 255;
            text.setCharAt(k, odd.charAt(some(odd.length())));
        }
        if (rare(8)) {
            text.setLength(some(text.length() + 1));
        }
        return text.toString();
    }

    static void tell(Used x, Oracle o, String text) {
        String full = text + "z".repeat((20 - text.length() % 20) % 20);
        due("end", x.end(0), o.end(0));
        for (int k = 0; k < full.length(); k += 20) {
            int[] n = new int[5];
            for (int i = 0; i < 20; i++) {
                n[i / 4] = n[i / 4] << 8 | full.charAt(k + i);
            }
            due("feed", x.feed(n[0], n[1], n[2], n[3], n[4]), o.feed(n[0], n[1], n[2], n[3], n[4]));
        }
        due("count(8)", x.count(8), o.count(8));
        int n = Math.min(200, text.length()) + (rare(30) ? some(5) - 2 : 0);
        due("end " + n, x.end(n), o.end(n));
        due("solid " + text, x.solid(), o.solid());
    }

    static void act(Used x, Oracle o) {
        int e = some(o.now.skin.edges.size() + 3) - 1;
        int h = some(o.now.skin.edges.size() + 3) - 1;
        int w = some(12) - 1;
        int f = some(o.now.skin.faces.size() + 2) - 1;
        int shelf = some(4) - 1;
        switch (some(20)) {
            case 0: due("hinge " + e, x.hinge(e), o.hinge(e)); break;
            case 1: due("cut " + e, x.cut(e), o.cut(e)); break;
            case 2: case 3: due("root " + f, x.root(f), o.root(f)); break;
            case 4: case 5: case 6: due("weigh " + e + " " + w, x.weigh(e, w), o.weigh(e, w)); break;
            case 7: case 8: due("span", x.span(), o.span()); break;
            case 9: case 10: due("tree " + w % 3, x.tree(w % 3), o.tree(w % 3)); break;
            case 11: case 12: case 13: due("trade " + e + " " + h, x.trade(e, h), o.trade(e, h)); break;
            case 14: if (rare(4)) { due("mend", x.mend(), o.mend()); } break;
            case 15: if (rare(3)) { due("seek", x.seek(), o.seek()); } break;
            case 16: due("undo", x.undo(), o.undo()); break;
            case 17: due("keep " + shelf, x.keep(shelf), o.keep(shelf)); break;
            case 18: due("back " + shelf, x.back(shelf), o.back(shelf)); break;
            default: for (int i = 0; i < 9; i++) {
                int k = some(o.now.skin.edges.size() + 2) - 1;
                due("hinge " + k, x.hinge(k), o.hinge(k));
            }
        }
    }

    static void askOne(Used x, Oracle o) {
        int what = some(10) - 1;
        int f = some(o.now.skin.faces.size() + 2) - 1;
        int g = some(o.now.skin.faces.size() + 2) - 1;
        int e = some(o.now.skin.edges.size() + 2) - 1;
        int k = some(12) - 2;
        int s = some(6) - 1;
        int big = some(66) - 2;
        due("face", x.face(f, what), o.face(f, what));
        due("side", x.side(f, s, what), o.side(f, s, what));
        due("edge", x.edge(e, what), o.edge(e, what));
        due("corner", x.corner(f, s, what), o.corner(f, s, what));
        due("vertex", x.vertex(e, what), o.vertex(e, what));
        due("place", x.place(f, what), o.place(f, what));
        due("over", x.over(k), o.over(k));
        due("box", x.box(what), o.box(what));
        due("part", x.part(e), o.part(e));
        due("way", x.way(f, g, k), o.way(f, g, k));
        due("free", x.free(k), o.free(k));
        due("rim", x.rim(big, what), o.rim(big, what));
        due("count", x.count(k + 2), o.count(k + 2));
        if (o.rim(NONE, 0) > 22 || rare(3)) {
            int number = some(40) - 1;
            due("gluings", x.gluings(), o.gluings());
            due("glued", x.glued(number, big), o.glued(number, big));
            due("lacks", x.lacks(number, what), o.lacks(number, what));
            due("itself", x.itself(), o.itself());
        }
        due("outline", x.outline(), o.outline());
        due("alike", x.alike(s - 1), o.alike(s - 1));
        if (rare(12)) {
            due("best", x.best(s), o.best(s));
        }
    }

    private static final int ACTS = 12;
    private static long from = 0;
    private static Used used = new Used();
    private static Oracle oracle = new Oracle();

    /** The same acts again on new objects, so that none is asked for more than it promises. */
    static void again() {
        seed = from;
        used = new Used();
        oracle = new Oracle();
        tell(used, oracle, rare(3) ? "cube 0 0 0" : rare(3) ? "cube 3 2 1; cube 3 2 0" : randomText());
        for (int i = 0; i < ACTS; i++) {
            act(used, oracle);
        }
    }

    static Used x() {
        if (used.left() < 8) {
            again();
        }
        return used;
    }

    static void askAll(long where) {
        from = where;
        again();
        Oracle o = oracle;
        for (int f = -1; f <= o.now.skin.faces.size(); f++) {
            for (int what = -1; what < 4; what++) {
                due("face", x().face(f, what), o.face(f, what));
                due("place", x().place(f, what), o.place(f, what));
                for (int s = -1; s < 5; s++) {
                    due("side", x().side(f, s, what), o.side(f, s, what));
                    due("corner", x().corner(f, s, what), o.corner(f, s, what));
                }
            }
        }
        for (int e = -1; e <= o.now.skin.edges.size(); e++) {
            for (int what = -1; what < 9; what++) {
                due("edge", x().edge(e, what), o.edge(e, what));
                due("vertex", x().vertex(e, what), o.vertex(e, what));
            }
            due("part", x().part(e), o.part(e));
        }
        for (int k = -2; k < 64; k++) {
            due("over", x().over(k), o.over(k));
            due("free", x().free(k), o.free(k));
            for (int what = -1; what < 5; what++) {
                due("rim", x().rim(k, what), o.rim(k, what));
            }
        }
    }

    static void askGluings() {
        Oracle o = oracle;
        for (int g = -1; g <= Math.max(0, o.gluings()); g++) {
            for (int k = -1; k <= 22; k++) {
                due("glued", x().glued(g, k), o.glued(g, k));
            }
            for (int what = -1; what < 4; what++) {
                due("lacks", x().lacks(g, what), o.lacks(g, what));
            }
        }
    }

    /** Trees by random weights: their best trades, what mending makes of them, and their outlines. */
    static void askTrees(int runs) {
        for (int run = 0; run < runs; run++) {
            seed = 500000 + run;
            Used x = new Used();
            Oracle o = new Oracle();
            tell(x, o, randomText());
            int edges = o.now.skin.edges.size();
            for (int i = 0; i < edges; i++) {
                int weight = some(10);
                due("weigh", x.weigh(i, weight), o.weigh(i, weight));
            }
            int face = some(31);
            due("root", x.root(face), o.root(face));
            if (rare(3)) {
                due("tree", x.tree(run % 2), o.tree(run % 2));
            } else {
                due("span", x.span(), o.span());
            }
            due("overlaps", x.over(NONE), o.over(NONE));
            due("outline", x.outline(), o.outline());
            if (o.over(NONE) > 0 || rare(8)) {
                for (int what = 0; what < 3; what++) {
                    due("best " + what, x.best(what), o.best(what));
                }
                due("mend", x.mend(), o.mend());
            } else {
                due("seek", x.seek(), o.seek());
            }
            due("outline after", x.outline(), o.outline());
            for (int i = 0; i < edges; i++) {
                due("hinge", x.edge(i, 6), o.edge(i, 6));
            }
        }
    }

    /** FIRST NETS of 2999, of 3000 and of more STEPS. */
    static void askSeeks() {
        String[] texts = {"cube 3 3 3;cube 3 3 2;cube 3 4 3;cube 2 3 3;cube 4 3 2;cube 4 3 3;cube 5 3 3",
            "cube 5 6 5;cube 6 6 5;cube 4 6 5;cube 5 5 5;cube 4 6 6;cube 5 6 4",
            "cube 4 2 2;cube 4 1 2;cube 3 2 2;cube 4 3 2;cube 5 3 2;cube 3 2 3;cube 2 2 2"};
        int[] roots = {27, 20, 9};
        for (int i = 0; i < texts.length; i++) {
            seed = 11 + i;
            Used x = new Used();
            Oracle o = new Oracle();
            tell(x, o, texts[i]);
            due("root", x.root(roots[i]), o.root(roots[i]));
            due("steps of " + texts[i], x.seek(), o.seek());
            due("its outline", x.outline(), o.outline());
        }
    }

    static void walk(long where) {
        seed = where;
        Used x = new Used();
        Oracle o = new Oracle();
        for (int i = 0; x.left() > 80; i++) {
            if (i == 2 || rare(15)) {
                tell(x, o, rare(4) ? "cube 0 0 0" : rare(3) ? "cube 3 2 1; cube 3 2 0" : randomText());
            }
            for (int acts = some(3); acts >= 0; acts--) {
                act(x, o);
            }
            askOne(x, o);
        }
    }

    public static void main(String[] args) {
        int runs = args.length > 0 ? Integer.parseInt(args[0]) : 150;
        for (int run = 0; run < runs; run++) {
            walk(1000 + 2 * run);
            walk(1001 + 2 * run);
            askAll(700000 + run);
            askGluings();
        }
        for (int i = 0; i < 20 * runs; i++) {
            seed = 77000 + i;
            tell(new Used(), new Oracle(), randomText());
        }
        askTrees(3 * runs);
        askSeeks();
        finish();
    }
}
