/** Each refused call, by each reason to refuse it, is followed by looks that show that nothing happened. */
final class RefusedTest extends Twins {
    private static final int[] BAD_EDGES = {-1, -2, LEAST, 12, 13, 31, 32, 63, 64, MOST};
    private static final int[] BAD_FACES = {-1, -2, LEAST, 6, 7, 31, 32, MOST};
    private static final int[] BAD_SHELVES = {-1, -2, LEAST, 2, 3, MOST};
    private static final int[] BAD_KINDS = {-1, LEAST, 2, MOST};
    private static final int[] BAD_WEIGHTS = {-1, LEAST, 10, MOST};
    private static final String MORE = "cube 4 2 2;cube 4 1 2;cube 3 2 2;cube 4 3 2;cube 5 3 2;cube 3 2 3;cube 2 2 2";

    static void fresh(Used x) {
    }

    static void keptNothing(Used x) {
        x.keep(1);
        put(x, TWO);
    }

    /** All joined, five ACTS, another NET kept, a text on the TAPE. */
    static void cube(Used x) {
        tell(x, CUBE);
        x.tree(1);
        x.keep(0);
        x.weigh(3, 7);
        x.weigh(0, 0);
        x.root(4);
        x.tree(0);
        put(x, TWO);
    }

    static void notJoined(Used x) {
        cube(x);
        x.cut(x.side(4, 0, 0));
    }

    static void noHinges(Used x) {
        tell(x, CUBE);
        x.keep(1);
        put(x, CUBE + "?");
    }

    static void tenActs(Used x) {
        cube(x);
        for (int weight = 2; weight <= 9; weight++) {
            x.weigh(11, weight);
        }
        x.keep(1);
    }

    static void thirtySides(Used x) {
        tell(x, BENT);
        x.span();
        x.keep(0);
        x.tree(0);
    }

    static void fullTape(Used x) {
        cube(x);
        put(x, CUBE + " ".repeat(190));
    }

    static void tooManySteps(Used x) {
        tell(x, MORE);
        x.root(9);
        x.hinge(5);
        x.keep(0);
    }

    static void tape() {
        refused("feed, 200 bytes", RefusedTest::fullTape, x -> x.feed(1, 2, 3, 4, 5), NONE);
        for (int bad : new int[] {-1, LEAST, 22, 41, 200, 201, MOST}) {
            refused("end " + bad, RefusedTest::cube, x -> x.end(bad), NONE);
        }
        refused("end 201", RefusedTest::fullTape, x -> x.end(201), NONE);
        refused("end 1", RefusedTest::fresh, x -> x.end(1), NONE);
        // But for the TAPE nothing happens: as if it were emptied alone.
        Run faulty = x -> {
            cube(x);
            put(x, "cube 0 0 0;cube 0 0 2");
        };
        sameAs("solid, 4", faulty, Used::solid, -2 - 164, x -> x.end(0));
        sameAs("solid, 1", RefusedTest::noHinges, Used::solid, -2 - 81, x -> x.end(0));
        sameAs("solid, no text", RefusedTest::tooManySteps, Used::solid, -3, NOTHING);
        Run open = x -> {
            tenActs(x);
            put(x, OPEN);
        };
        sameAs("solid, 5", open, Used::solid, -2 - 8 * 54 - 5, x -> x.end(0));
        Run eighth = x -> {
            thirtySides(x);
            put(x, STAR + ";cube");
        };
        sameAs("solid, 3", eighth, Used::solid, -2 - 8 * 77 - 3, x -> x.end(0));
        Run seven = x -> {
            thirtySides(x);
            put(x, "cube 0 7 0");
        };
        sameAs("solid, 2", seven, Used::solid, -2 - 8 * 7 - 2, x -> x.end(0));
    }

    static void hinges() {
        for (int bad : BAD_EDGES) {
            refused("hinge " + bad, RefusedTest::notJoined, x -> x.hinge(bad), NONE);
            refused("cut " + bad, RefusedTest::cube, x -> x.cut(bad), NONE);
            refused("weigh " + bad, RefusedTest::cube, x -> x.weigh(bad, 5), NONE);
            refused("trade " + bad, RefusedTest::cube, x -> x.trade(bad, 1), NONE);
            refused("trade for " + bad, RefusedTest::cube, x -> x.trade(0, bad), NONE);
        }
        refused("hinge 0", RefusedTest::fresh, x -> x.hinge(0), NONE);
        refused("cut 0", RefusedTest::fresh, x -> x.cut(0), NONE);
        refused("weigh 0", RefusedTest::fresh, x -> x.weigh(0, 0), NONE);
        refused("trade 0", RefusedTest::keptNothing, x -> x.trade(0, 1), NONE);
        refused("hinge of one", RefusedTest::cube, x -> x.hinge(1), -2);
        refused("hinge of one joined", RefusedTest::tenActs, x -> x.hinge(1), -2);
        refused("hinge, joined", RefusedTest::cube, x -> x.hinge(0), -3);
        refused("hinge, joined, ten acts", RefusedTest::tenActs, x -> x.hinge(11), -3);
        refused("cut of one", RefusedTest::cube, x -> x.cut(0), -2);
        refused("cut of all", RefusedTest::noHinges, x -> x.cut(11), -2);
        for (int bad : BAD_WEIGHTS) {
            refused("weigh so " + bad, RefusedTest::cube, x -> x.weigh(3, bad), NONE);
        }
        refused("weigh 3 7", RefusedTest::cube, x -> x.weigh(3, 7), -2);
        refused("weigh 0 0", RefusedTest::cube, x -> x.weigh(0, 0), -2);
        refused("weigh 11 9", RefusedTest::tenActs, x -> x.weigh(11, 9), -2);
        refused("trade, both cut", RefusedTest::cube, x -> x.trade(0, 5), -2);
        refused("trade, both hinges", RefusedTest::cube, x -> x.trade(1, 4), -2);
        refused("trade, one", RefusedTest::cube, x -> x.trade(1, 1), -2);
        refused("trade, other one", RefusedTest::cube, x -> x.trade(0, 0), -2);
        refused("trade, wrong way", RefusedTest::cube, x -> x.trade(1, 0), -2);
        refused("trade, not joined then", RefusedTest::cube, x -> x.trade(0, 4), -3);
        refused("trade, not joined", RefusedTest::notJoined, x -> x.trade(0, 4), -3);
        refused("trade, ten acts", RefusedTest::tenActs, x -> x.trade(0, 4), -3);
    }

    static void rootAndTrees() {
        for (int bad : BAD_FACES) {
            refused("root " + bad, RefusedTest::cube, x -> x.root(bad), NONE);
        }
        refused("root 0", RefusedTest::fresh, x -> x.root(0), NONE);
        refused("root 4", RefusedTest::cube, x -> x.root(4), -2);
        refused("root 0 of all cut", RefusedTest::noHinges, x -> x.root(0), -2);
        refused("root, ten acts", RefusedTest::tenActs, x -> x.root(4), -2);
        refused("span", RefusedTest::fresh, Used::span, NONE);
        refused("span, a shelf", RefusedTest::keptNothing, Used::span, NONE);
        for (int bad : BAD_KINDS) {
            refused("tree " + bad, RefusedTest::cube, x -> x.tree(bad), NONE);
            refused("tree " + bad, RefusedTest::fresh, x -> x.tree(bad), NONE);
        }
        refused("tree 0", RefusedTest::fresh, x -> x.tree(0), NONE);
        refused("tree 1", RefusedTest::keptNothing, x -> x.tree(1), NONE);
        refused("mend, no solid", RefusedTest::fresh, Used::mend, NONE);
        refused("mend, one too few", RefusedTest::notJoined, Used::mend, NONE);
        refused("mend, no hinges", RefusedTest::noHinges, Used::mend, NONE);
        refused("seek, no solid", RefusedTest::fresh, Used::seek, NONE);
        refused("seek, a shelf", RefusedTest::keptNothing, Used::seek, NONE);
        refused("seek, too many steps", RefusedTest::tooManySteps, Used::seek, -3);
    }

    static void undoAndShelves() {
        refused("undo, no solid", RefusedTest::fresh, Used::undo, NONE);
        refused("undo, no act", RefusedTest::noHinges, Used::undo, NONE);
        Run undone = x -> {
            tenActs(x);
            for (int i = 0; i < 10; i++) {
                x.undo();
            }
        };
        refused("undo, all undone", undone, Used::undo, NONE);
        Run wentBack = x -> {
            tenActs(x);
            x.back(0);
        };
        refused("undo, gone back", wentBack, Used::undo, NONE);
        for (int bad : BAD_SHELVES) {
            refused("keep " + bad, RefusedTest::cube, x -> x.keep(bad), NONE);
            refused("back " + bad, RefusedTest::cube, x -> x.back(bad), NONE);
            refused("alike " + bad, RefusedTest::cube, x -> x.alike(bad), NONE);
            refused("keep " + bad, RefusedTest::fresh, x -> x.keep(bad), NONE);
            refused("back " + bad, RefusedTest::fresh, x -> x.back(bad), NONE);
        }
        refused("back 1", RefusedTest::cube, x -> x.back(1), -2);
        refused("back 0", RefusedTest::noHinges, x -> x.back(0), -2);
        refused("back 0", RefusedTest::keptNothing, x -> x.back(0), -2);
        refused("alike 1", RefusedTest::cube, x -> x.alike(1), NONE);
        refused("alike 0, none now", RefusedTest::notJoined, x -> x.alike(0), -2);
    }

    static void looks() {
        for (int bad : BAD_FACES) {
            refused("face " + bad, RefusedTest::cube, x -> x.face(bad, 0), NONE);
            refused("side " + bad, RefusedTest::cube, x -> x.side(bad, 0, 0), NONE);
            refused("corner " + bad, RefusedTest::cube, x -> x.corner(bad, 0, 0), NONE);
            refused("place " + bad, RefusedTest::cube, x -> x.place(bad, 0), -1000);
            refused("way " + bad, RefusedTest::cube, x -> x.way(bad, 0, 0), NONE);
            refused("way to " + bad, RefusedTest::cube, x -> x.way(0, bad, 0), NONE);
        }
        for (int bad : BAD_EDGES) {
            refused("edge " + bad, RefusedTest::cube, x -> x.edge(bad, 0), NONE);
            refused("vertex " + bad, RefusedTest::cube, x -> x.vertex(bad, 0), NONE);
            refused("part " + bad, RefusedTest::cube, x -> x.part(bad), NONE);
            refused("count " + bad, RefusedTest::cube, x -> x.count(bad == 12 ? 11 : bad), NONE);
        }
        refused("part of a cut one", RefusedTest::cube, x -> x.part(0), -2);
        refused("way, not joined", RefusedTest::notJoined, x -> x.way(4, x.side(4, 0, 1), NONE), -3);
        refused("way, too far", RefusedTest::cube, x -> x.way(4, 4, 1), -2);
        refused("way, -2", RefusedTest::cube, x -> x.way(4, 4, -2), NONE);
        refused("over -2", RefusedTest::thirtySides, x -> x.over(-2), NONE);
        refused("over 1", RefusedTest::thirtySides, x -> x.over(1), -2);
        refused("free -2", RefusedTest::cube, x -> x.free(-2), NONE);
        refused("free 0", RefusedTest::cube, x -> x.free(0), -2);
        refused("box 4", RefusedTest::cube, x -> x.box(4), -1000);
        refused("box 0", RefusedTest::keptNothing, x -> x.box(0), -1000);
    }

    static void rims() {
        refused("rim -2", RefusedTest::cube, x -> x.rim(-2, 0), NONE);
        refused("rim 14", RefusedTest::cube, x -> x.rim(14, 0), NONE);
        refused("rim 0 4", RefusedTest::cube, x -> x.rim(0, 4), NONE);
        refused("rim, not joined", RefusedTest::notJoined, x -> x.rim(0, 0), NONE);
        refused("gluings, not joined", RefusedTest::notJoined, Used::gluings, NONE);
        refused("itself, not joined", RefusedTest::notJoined, Used::itself, NONE);
        refused("glued, not joined", RefusedTest::notJoined, x -> x.glued(0, 0), NONE);
        refused("lacks, not joined", RefusedTest::notJoined, x -> x.lacks(0, 0), NONE);
        refused("gluings, 30 sides", RefusedTest::thirtySides, Used::gluings, -3);
        refused("itself, 30 sides", RefusedTest::thirtySides, Used::itself, -3);
        refused("glued, 30 sides", RefusedTest::thirtySides, x -> x.glued(MOST, 29), -3);
        refused("lacks, 30 sides", RefusedTest::thirtySides, x -> x.lacks(MOST, 2), -3);
        refused("glued 17", RefusedTest::cube, x -> x.glued(17, 0), NONE);
        refused("lacks 17", RefusedTest::cube, x -> x.lacks(17, 0), NONE);
        refused("best 3", RefusedTest::cube, x -> x.best(3), NONE);
        refused("best, not joined", RefusedTest::notJoined, x -> x.best(0), NONE);
        refused("outline, not joined", RefusedTest::notJoined, Used::outline, 0);
        refused("outline, overlaps", RefusedTest::thirtySides, Used::outline, 0);
    }

    public static void main(String[] args) {
        tape();
        hinges();
        rootAndTrees();
        undoAndShelves();
        looks();
        rims();
        finish();
    }
}
