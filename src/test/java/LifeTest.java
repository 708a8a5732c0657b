/** "An object is used for at most 512 calls": up to the 512th each answer is as due, however dear the calls are. */
final class LifeTest extends Check {
    private static final String ROW =
        "cube0 0 0;cube0 0 1;cube0 0 2;cube0 0 3;cube0 0 4;cube0 0 5;cube0 0 6";

    /** The 512th call itself. */
    static void lastCall() {
        Used x = cross();
        while (x.left() > 1) {
            x.tree(x.left() % 2);
        }
        due("the last call", x.hinge(12), NONE);
        due("none left", x.left(), 0);
        Used y = cross();
        while (y.left() > 2) {
            y.weigh(3, y.left() % 10);
        }
        due("the 511th call", y.count(7), 10);
        due("the 512th call", y.undo(), 9);
        Used z = made(STAR);
        while (z.left() > 3) {
            z.seek();
        }
        due("the 510th call", z.seek(), 218);
        due("the 511th call", z.over(NONE), 0);
        due("the 512th call", z.count(6), 30);
    }

    /** Solids told, kept and brought back over and over: nothing fills up. */
    static void manySolids() {
        Used x = new Used();
        String[] texts = {CUBE, ROW, TWO, STAR};
        int[] faces = {6, 30, 10, 30};
        int last = 0;
        for (int i = 0; x.left() > 18; i++) {
            due("told", tell(x, texts[i % 4]), faces[i % 4]);
            due("joined", x.tree(0) > 0 ? 1 : 0, 1);
            due("kept", x.keep(i % 2), faces[i % 4] - 1);
            if (i > 0) {
                due("back", x.back((i + 1) % 2), faces[last] - 1);
                due("its faces", x.count(1), faces[last]);
            }
            last = i % 4;
        }
        due("shelves", x.count(9), 3);
    }

    /** Acts beyond ten, undone in between: the ring of ACTS goes round and round. */
    static void manyActs() {
        Used x = made(CUBE);
        int can = 0;
        int before = 1;
        for (int i = 0; x.left() > 4; i++) {
            int weight = before == 9 ? 0 : before + 1;
            due("act", x.weigh(0, weight), before);
            before = weight;
            can = Math.min(10, can + 1);
            if (i % 3 == 2) {
                can--;
                due("undone", x.undo(), can);
                before = before == 0 ? 9 : before - 1;
            }
        }
        due("as it is", x.edge(0, 5), before);
        due("can be undone", x.count(7), can);
    }

    /** The dearest calls, each behind a change that makes it look anew. */
    static void dearCalls() {
        Used x = made(STAR);
        Used y = made(TWO);
        x.tree(0);
        y.tree(0);
        int best = x.best(2);
        int own = y.itself();
        for (int i = 0; x.left() > 5 && y.left() > 5; i++) {
            x.root(i % 29 + 1);
            due("best from another root", x.best(2), best);
            y.cut(0);
            due("none", y.gluings(), NONE);
            y.hinge(0);
            due("gluings", y.gluings(), 17);
            due("itself", y.itself(), own);
        }
        Used z = made(ROW);
        while (z.left() > 3) {
            z.tree(z.left() / 2 % 2);
            due("nothing to mend", z.mend(), 0);
        }
    }

    public static void main(String[] args) {
        lastCall();
        manySolids();
        manyActs();
        dearCalls();
        finish();
    }
}
