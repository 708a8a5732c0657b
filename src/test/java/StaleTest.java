/** "in place of the one there was": what was looked for in a larger SOLID leaves nothing behind in the next one. */
final class StaleTest extends Twins {
    /** All that is found and remembered, of thirty FACES and of a RIM of 22 SIDES. */
    static void used(Used x) {
        tell(x, STAR);
        for (int e = 0; e < 60; e += 7) {
            x.weigh(e, e % 10);
        }
        x.root(29);
        x.tree(1);
        x.best(0);
        x.outline();
        x.way(0, 17, 3);
        x.mend();
        x.free(0);
        x.rim(61, 3);
        x.tree(0);
        x.span();
        tell(x, TWO);
        x.tree(0);
        x.gluings();
        x.glued(3, 20);
        x.lacks(5, 1);
        x.itself();
        tell(x, STAR);
        x.outline();
        x.tree(0);
        x.best(1);
    }

    static void check(String what, Call later) {
        for (String text : new String[] {CUBE, TWO, BENT}) {
            Call fresh = x -> {
                tell(x, text);
                return later.on(x);
            };
            Used probe = new Used();
            long due = fresh.on(probe);
            sameAs(what + " of " + text, x -> { }, x -> {
                used(x);
                tell(x, text);
                return later.on(x);
            }, due, fresh);
            sameAs(what + " of " + text + ", back", x -> { }, x -> {
                tell(x, text);
                x.keep(0);
                used(x);
                x.back(0);
                return later.on(x);
            }, due, x -> {
                tell(x, text);
                x.keep(0);
                return later.on(x);
            });
        }
    }

    public static void main(String[] args) {
        check("told", NOTHING);
        check("span", Used::span);
        check("tree 0", x -> x.tree(0));
        check("tree 1", x -> x.tree(1));
        check("seek", Used::seek);
        check("root and tree", x -> 100 * x.root(5) + x.tree(0));
        check("span, trade", x -> 100 * x.span() + x.trade(x.best(0), x.best(1)));
        check("root, tree, mend", x -> 10000 * x.root(3) + 100 * x.tree(0) + x.mend());
        check("hinges", x -> 100 * x.hinge(11) + 10 * x.hinge(0) + x.hinge(3));
        check("span, cut", x -> 100 * x.span() + x.cut(0));
        check("weigh, span", x -> 100 * x.weigh(2, 7) + x.span());
        finish();
    }
}
