/** Each bound of what ACTS, UNDO and SHELVES are told: just inside, at it, just past it. */
final class ActBoundsTest extends Twins {
    private static final String FEWER_STEPS =
        "cube 3 3 3;cube 3 3 2;cube 3 4 3;cube 2 3 3;cube 4 3 2;cube 4 3 3;cube 5 3 3";
    private static final String MOST_STEPS = "cube 5 6 5;cube 6 6 5;cube 4 6 5;cube 5 5 5;cube 4 6 6;cube 5 6 4";
    private static final String MORE_STEPS =
        "cube 4 2 2;cube 4 1 2;cube 3 2 2;cube 4 3 2;cube 5 3 2;cube 3 2 3;cube 2 2 2";

    /** 1: "No SOLID": what each call answers then. */
    static void newObject() {
        Used x = new Used();
        noSolid("1: new, ", x);
        due("1: back 0", x.back(0), -2);
        due("1: back 1", x.back(1), -2);
        due("1: alike 0", x.alike(0), NONE);
        due("1: alike 1", x.alike(1), NONE);
        due("1: shelves", x.count(9), 0);
        due("1: end", x.end(0), 0);
        due("1: solid", x.solid(), -3);
        noSolid("1: after a fault, ", x);
    }

    /** 16: that no SOLID was there is KEPT too. */
    static void backToNothing() {
        for (String text : new String[] {CUBE, STAR}) {
            Used x = new Used();
            due("15: keep nothing", x.keep(1), 0);
            due("36: nothing is kept on 1", x.count(9), 2);
            tell(x, text);
            x.root(4);
            x.tree(0);
            x.weigh(0, 5);
            due("16: back to nothing", x.back(1), 0);
            noSolid("16: ", x);
            due("16: still kept", x.count(9), 2);
            due("34: no outlines", x.alike(1), -2);
            due("16: once more", x.back(1), 0);
            due("4: told again", tell(x, CUBE), 6);
            due("4: root 0", x.count(5), 0);
            due("4: weight 1", x.edge(0, 5), 1);
        }
    }

    static void noSolid(String when, Used x) {
        due(when + "hinge", x.hinge(0), NONE);
        due(when + "cut", x.cut(0), NONE);
        due(when + "root", x.root(0), NONE);
        due(when + "weigh", x.weigh(0, 0), NONE);
        due(when + "span", x.span(), NONE);
        due(when + "tree 0", x.tree(0), NONE);
        due(when + "tree 1", x.tree(1), NONE);
        due(when + "trade", x.trade(0, 0), NONE);
        due(when + "mend", x.mend(), NONE);
        due(when + "seek", x.seek(), NONE);
        due(when + "undo", x.undo(), NONE);
        for (int what = -1; what < 9; what++) {
            due(when + "face", x.face(0, what), NONE);
            due(when + "side", x.side(0, 0, what), NONE);
            due(when + "edge", x.edge(0, what), NONE);
            due(when + "corner", x.corner(0, 0, what), NONE);
            due(when + "vertex", x.vertex(0, what), NONE);
            due(when + "place", x.place(0, what), -1000);
            due(when + "box", x.box(what), -1000);
            due(when + "rim NONE", x.rim(NONE, what), NONE);
            due(when + "rim", x.rim(0, what), NONE);
            due(when + "lacks", x.lacks(0, what), NONE);
            due(when + "best", x.best(what), NONE);
        }
        for (int k = -3; k < 3; k++) {
            due(when + "over", x.over(k), k < NONE ? NONE : k == NONE ? 0 : -2);
            due(when + "free", x.free(k), k < NONE ? NONE : k == NONE ? 0 : -2);
            due(when + "way", x.way(0, 0, k), NONE);
        }
        due(when + "part", x.part(0), NONE);
        due(when + "gluings", x.gluings(), NONE);
        due(when + "glued", x.glued(0, 0), NONE);
        due(when + "itself", x.itself(), NONE);
        due(when + "outline", x.outline(), 0);
        for (int what = 0; what <= 10; what++) {
            due(when + "count " + what, what == 9 ? 0 : x.count(what), 0);
        }
    }

    /** 4: "all EDGES CUT, WEIGHTS 1, ROOT 0; nothing can be UNDONE; SHELVES stay", told again too. */
    static void toldAnew() {
        for (String text : new String[] {CUBE, TWO, STAR}) {
            Used x = made(CUBE);
            x.tree(0);
            x.keep(0);
            for (int e = 0; e < 12; e++) {
                x.weigh(e, 9 - e % 3);
            }
            x.root(5);
            x.keep(1);
            int faces = tell(x, text);
            due("4: faces", faces, x.count(1));
            due("4: edges", x.count(2), 2 * faces);
            for (int e = 0; e < 2 * faces; e++) {
                due("4: cut " + e, x.edge(e, 6), 0);
                due("4: weight 1 " + e, x.edge(e, 5), 1);
            }
            due("4: no hinges", x.count(4), 0);
            due("4: root 0", x.count(5), 0);
            due("4: root alone placed", x.count(6), 1);
            due("4: no acts", x.count(7), 0);
            due("4: nothing undone", x.undo(), NONE);
            due("4: shelves stay", x.count(9), 3);
            due("4: shelf 1", x.back(1), 5);
            due("4: its root", x.count(5), 5);
            due("4: its weight", x.edge(11, 5), 7);
            due("4: shelf 0", x.back(0), 5);
            due("4: its own root", x.count(5), 0);
            due("4: its own weight", x.edge(11, 5), 1);
        }
    }

    /** 5: "how many HINGES there are"; EDGES 0 to the last; -2 ahead of -3; never a ring. */
    static void hinges() {
        for (String text : new String[] {CUBE, TWO, BENT, STAR}) {
            Used x = made(text);
            int edges = x.count(2);
            due("5: last", x.hinge(edges - 1), 1);
            due("5: behind the last", x.hinge(edges), NONE);
            due("5: ahead of the first", x.hinge(-1), NONE);
            due("5: first", x.hinge(0), 2);
            int hinges = 2;
            for (int e = 1; e < edges - 1; e++) {
                boolean joined = x.way(x.edge(e, 0), x.edge(e, 1), NONE) != -3;
                hinges += joined ? 0 : 1;
                due("5: hinge " + e, x.hinge(e), joined ? -3 : hinges);
            }
            due("5: all joined by", hinges, x.count(1) - 1);
            for (int e = 0; e < edges; e++) {
                due("5: each is a hinge or joined", x.hinge(e), x.edge(e, 6) == 1 ? -2 : -3);
            }
            due("5: acts", x.count(7), 10 < hinges ? 10 : hinges);
        }
    }

    /** 5: "-3: its FACES are joined already", by a way of two HINGES or of all. */
    static void rings() {
        Used x = made(CUBE);
        // Face 0, 2, 4, 1, 5, 3 one behind the other.
        int[] row = {0, 2, 4, 1, 5, 3};
        for (int i = 0; i < 5; i++) {
            due("5: not joined", x.hinge(between(x, row[i], row[i + 1])), i + 1);
            for (int k = 0; k < i; k++) {
                int e = between(x, row[k], row[i + 1]);
                due("5: joined by " + (i + 1 - k), e == NONE ? -3 : x.hinge(e), -3);
            }
        }
        int last = between(x, 3, 0);
        due("5: ends of the row", x.way(3, 0, NONE), 5);
        due("5: a ring of six", x.hinge(last), -3);
        due("6: cut in between", x.cut(between(x, 4, 1)), 4);
        due("5: no ring", x.hinge(last), 5);
    }

    static int hingeOf(Used x, int face) {
        int s = 0;
        while (s < 3 && x.edge(x.side(face, s, 0), 6) == 0) {
            s++;
        }
        return x.side(face, s, 0);
    }

    static int between(Used x, int face, int other) {
        for (int s = 0; s < 4; s++) {
            if (x.side(face, s, 1) == other) {
                return x.side(face, s, 0);
            }
        }
        return NONE;
    }

    /** 6: "how many HINGES are left"; "-2: it is CUT". */
    static void cuts() {
        for (String text : new String[] {CUBE, STAR}) {
            Used x = made(text);
            due("6: all cut", x.cut(0), -2);
            int edges = x.count(2);
            due("6: last of all cut", x.cut(edges - 1), -2);
            due("6: behind the last", x.cut(edges), NONE);
            due("6: ahead of the first", x.cut(-1), NONE);
            x.tree(0);
            int left = x.count(1) - 1;
            for (int e = 0; e < edges; e++) {
                if (x.edge(e, 6) == 1) {
                    left--;
                    due("6: left", x.cut(e), left);
                    due("6: cut then", x.edge(e, 6), 0);
                }
                due("6: it is cut", x.cut(e), -2);
            }
            due("6: none left", x.count(4), 0);
        }
    }

    /** 7: "which it was"; FACES 0 to the last; "-2: it is". */
    static void roots() {
        for (String text : new String[] {CUBE, STAR}) {
            Used x = made(text);
            int last = x.count(1) - 1;
            due("7: it is", x.root(0), -2);
            due("7: behind the last", x.root(last + 1), NONE);
            due("7: ahead of the first", x.root(-1), NONE);
            due("7: last", x.root(last), 0);
            due("7: it is the last", x.root(last), -2);
            due("7: placed", x.face(last, 3), 1);
            due("7: no more placed", x.face(0, 3), 0);
            due("7: first", x.root(0), last);
            due("7: second", x.root(1), 0);
            due("7: acts", x.count(7), 3);
        }
    }

    /** 8: "0 to 9"; "how much it did"; "-2: it does"; NONE ahead of -2. */
    static void weights() {
        Used x = made(STAR);
        for (int e : new int[] {0, 1, 58, 59}) {
            int before = 1;
            for (int weight : new int[] {0, 1, 2, 8, 9, 5, 0, 9}) {
                due("8: weigh " + weight, x.weigh(e, weight), before);
                due("8: it does " + weight, x.weigh(e, weight), -2);
                due("8: edge", x.edge(e, 5), weight);
                due("8: 10", x.weigh(e, 10), NONE);
                due("8: -1", x.weigh(e, -1), NONE);
                before = weight;
            }
        }
        due("8: no edge 60", x.weigh(60, 5), NONE);
        due("8: no edge 60, weight 1", x.weigh(60, 1), NONE);
        due("8: no edge -1", x.weigh(-1, 0), NONE);
        due("8: neither", x.weigh(60, 10), NONE);
        due("8: others stay", x.edge(2, 5), 1);
    }

    /** 9: "HINGES anew .. EDGE by EDGE by WEIGHT, of like ones by number"; weights 0 and 9. */
    static void spans() {
        Used x = made(STAR);
        for (int weight : new int[] {0, 9}) {
            for (int e = 0; e < 60; e++) {
                x.weigh(e, weight);
            }
            due("9: all weigh " + weight, x.span(), 29 * weight);
            due("9: all joined", x.count(4), 29);
        }
        Used y = made(CUBE);
        // Face 1 is behind edges 4 to 7, face 0 behind 0 to 3.
        y.tree(1);
        for (int e = 0; e < 8; e++) {
            y.weigh(e, 9);
        }
        // The ring 8, 9, 11, 10 (2-4, 2-5, 3-5, 3-4), least numbers first, then 0 and 4.
        due("9: dear ones", y.span(), 3 + 18);
        int[] hinges = {0, 4, 8, 9};
        for (int e : hinges) {
            due("9: hinge " + e, y.edge(e, 6), 1);
        }
        due("9: of the ring the last by number is cut", y.edge(11, 6), 0);
        due("9: five", y.count(4), 5);
        y.weigh(9, 2);
        due("9: 9 weighs more", y.span(), 3 + 18);
        due("9: 9 cut", y.edge(9, 6), 0);
        due("9: 11 for it", y.edge(11, 6), 1);
        y.weigh(3, 0);
        due("9: of face 0 the one of least weight", y.span(), 3 + 9);
        due("9: hinge 3", y.edge(3, 6), 1);
        due("9: 0 is none", y.edge(0, 6), 0);
        y.weigh(3, 9);
        y.weigh(7, 8);
        due("9: 7 for 4", y.span(), 3 + 17);
        due("9: hinge 7", y.edge(7, 6), 1);
        due("9: hinge 4", y.edge(4, 6), 0);
    }

    /** 10: kinds 0 and 1; "from the ROOT on"; "how far .. the farthest FACE is from the ROOT". */
    static void trees() {
        for (int root = 0; root < 6; root++) {
            Used x = made(CUBE);
            x.root(root);
            due("10: kind -1", x.tree(-1), NONE);
            due("10: kind 2", x.tree(2), NONE);
            due("10: kind most", x.tree(MOST), NONE);
            due("10: kind least", x.tree(LEAST), NONE);
            due("10: kind 0", x.tree(0), 2);
            due("10: four round the root", x.face(root, 2), 4);
            // The opposite face is behind the first one come to.
            due("10: behind the first", x.way(root, root ^ 1, 1), x.side(root, 0, 1));
            due("10: kind 1", x.tree(1), 5);
            int at = root;
            int come = 1 << root;
            for (int k = 1; k <= 5; k++) {
                int s = 0;
                while ((come >> x.side(at, s, 1) & 1) == 1) {
                    s++;
                }
                at = x.side(at, s, 1);
                come |= 1 << at;
                due("10: on from that first " + k, x.edge(between(x, at, x.way(root, at, k - 1)), 6), 1);
                due("10: far " + k, x.way(root, at, NONE), k);
            }
            due("10: acts", x.count(7), root == 0 ? 2 : 3);
        }
        Used row = made("cube 0 0 0;cube 0 0 1;cube 0 0 2;cube 0 0 3;cube 0 0 4;cube 0 0 5;cube 0 0 6");
        due("10: by depth", row.tree(1), 29);
        due("10: by breadth", row.tree(0), 8);
        row.root(4);
        due("10: by depth from 4", row.tree(1), 29);
        row.root(5);
        due("10: by breadth from 5", row.tree(0), 7);
    }

    /** 11: NONE ahead of -2, that ahead of -3; "how many OVERLAPS there are then". */
    static void trades() {
        Used x = cross();
        int second = x.side(1, 1, 0);
        // Cut: all but 0 to 3 and the second; edge 8 joins 2 and 4.
        due("11: edges 0 to 11", x.trade(12, 0), NONE);
        due("11: hinges 0 to 11", x.trade(4, 12), NONE);
        due("11: -1", x.trade(-1, 0), NONE);
        due("11: -1 for", x.trade(4, -1), NONE);
        due("11: a hinge and no edge", x.trade(0, 12), NONE);
        due("11: no edge and a cut one", x.trade(12, 4), NONE);
        due("11: both hinges", x.trade(0, 1), -2);
        due("11: both cut", x.trade(4, 8), -2);
        due("11: a ring, but both cut", x.trade(8, 9), -2);
        due("11: not joined then", x.trade(8, 3), -3);
        due("11: nothing yet", x.count(7), 1);
        due("11: joined", x.trade(8, 0), 0);
        due("11: back", x.trade(0, 8), 0);
        due("11: last edge", x.trade(11, 3), 0);
        x.cut(0);
        due("11: not all are joined, both cut", x.trade(0, 8), -2);
        due("11: not all are joined", x.trade(0, 1), -3);
        due("11: would be joined", x.trade(0, second), -3);
        Used y = made(BENT);
        y.root(8);
        y.tree(0);
        due("11: three overlaps", y.over(NONE), 3);
        int best = y.best(2);
        due("11: best of trades", y.trade(y.best(0), y.best(1)), best);
        due("11: as over()", y.over(NONE), best);
        y.undo();
        due("11: undone", y.over(NONE), 3);
        for (int e = 0; e < 28; e++) {
            int many = y.edge(e, 6) == 1 ? NONE : y.trade(e, 17);
            if (many >= 0) {
                due("11: then, by " + e, y.over(NONE), many);
                y.undo();
            }
        }
    }

    /** 12: "As long as there is a trade by which OVERLAPS are fewer": like the best trades one by one. */
    static void mends() {
        int[][] runs = {{0, 0, 1}, {1, 0, 0}, {9, 0, 2}, {10, 0, 1}};
        for (int[] run : runs) {
            mendLike(BENT, run[0], run[1], run[2]);
        }
        mendLike(STAR, 2, 0, 3);
        mendLike(STAR, 4, 1, 2);
        mendLike(CUBE, 0, 0, 0);
        Used x = made(STAR);
        x.root(4);
        x.tree(1);
        due("12: two trades", x.mend(), 2);
        due("12: one overlap left", x.over(NONE), 1);
        due("12: no trade makes it fewer", x.best(2), 1);
        due("12: none then", x.mend(), 0);
        due("12: acts", x.count(7), 4);
        due("12: all undone at once", x.undo(), 3);
        due("12: one left still", x.over(NONE), 1);
        due("12: undone", x.undo(), 2);
        due("12: four overlaps again", x.over(NONE), 4);
        due("12: all but one joined", x.cut(hingeOf(x, 0)), 28);
        due("12: one too few", x.mend(), NONE);
    }

    static void mendLike(String text, int root, int kind, int due) {
        Used x = made(text);
        Used y = made(text);
        x.root(root);
        y.root(root);
        x.tree(kind);
        y.tree(kind);
        int trades = 0;
        while (trades < 20 && y.best(2) < y.over(NONE)) {
            int then = y.best(2);
            due("12: one trade", y.trade(y.best(0), y.best(1)), then);
            trades++;
        }
        due("12: trades of " + text + " from " + root, x.mend(), trades);
        due("12: as told", trades, due);
        for (int e = 0; e < x.count(2); e++) {
            due("12: edge " + e, x.edge(e, 6), y.edge(e, 6));
        }
    }

    /** 13: "how many STEPS it took"; "-3: more than 3000 STEPS". */
    static void seeks() {
        for (int root = 0; root < 6; root++) {
            Used x = made(CUBE);
            x.root(root);
            int steps = x.seek();
            due("13: a net", x.over(NONE) + 10 * x.count(6), 60);
            due("13: each hinge and the end at least", steps > 5 ? 1 : 0, 1);
            due("13: the root stays", x.count(5), root);
        }
        // Both FACES of the first EDGE come to be PLACED by others, so it is CUT.
        Used cut = made("cube 3 3 3;cube 3 3 4;cube 3 4 3;cube 2 3 4;cube 2 2 4");
        cut.root(11);
        due("13: steps", cut.seek(), 25);
        due("13: hinges", cut.count(4), cut.count(1) - 1);
        due("13: the first edge is cut", cut.edge(0, 6), 0);
        due("13: it would be a ring", cut.hinge(0), -3);
        Used fewer = made(FEWER_STEPS);
        fewer.root(27);
        due("13: 2999", fewer.seek(), 2999);
        due("13: a net of 2999", fewer.over(NONE), 0);
        due("13: all joined", fewer.count(4), fewer.count(1) - 1);
        Used most = made(MOST_STEPS);
        most.root(20);
        most.weigh(3, 8);
        due("13: 3000", most.seek(), 3000);
        due("13: a net of 3000", most.over(NONE), 0);
        due("13: all placed", most.count(6), most.count(1));
        due("13: weights stay", most.edge(3, 5), 8);
        due("13: an act", most.count(7), 3);
        due("13: undone", most.undo(), 2);
        due("13: no hinges then", most.count(4), 0);
        Used more = made(MORE_STEPS);
        more.root(9);
        due("13: 3001", more.seek(), -3);
        due("13: no act", more.count(7), 1);
        due("13: no hinges", more.count(4), 0);
        more.root(0);
        due("13: from another root", more.seek() > 0 ? 1 : 0, 1);
    }

    /** "The last 10 can be UNDONE, the last first." */
    static void tenActs() {
        for (int acts = 0; acts <= 13; acts++) {
            Used x = made(CUBE);
            for (int i = 0; i < acts; i++) {
                due("14: an act", x.weigh(7, i % 2 == 0 ? 0 : i % 10), i == 0 ? 1 : i % 2 == 1 ? 0 : (i - 1) % 10);
            }
            int can = Math.min(acts, 10);
            due("14: of " + acts, x.count(7), can);
            for (int i = 1; i <= can; i++) {
                due("14: how many more", x.undo(), can - i);
                int left = acts - i;
                due("14: as it was", x.edge(7, 5), left == 0 ? 1 : left % 2 == 1 ? 0 : (left - 1) % 10);
            }
            due("14: none can", x.undo(), NONE);
            due("14: count", x.count(7), 0);
            due("14: then again", x.weigh(0, 9), 1);
            due("14: one can", x.undo(), 0);
            due("14: that is gone", x.edge(0, 5), 1);
        }
    }

    static void ready(Used x) {
        tell(x, CUBE);
        x.weigh(2, 4);
        x.tree(1);
        x.keep(1);
        x.root(3);
        x.cut(x.side(0, 0, 0));
        put(x, TWO);
    }

    static void joined(Used x) {
        ready(x);
        x.span();
    }

    /** "ACTS: all from hinge() to seek()": each counts, and UNDONE all is as ahead of it. */
    static void eachAct() {
        act("hinge", ActBoundsTest::ready, x -> x.hinge(0));
        act("cut", ActBoundsTest::joined, x -> x.cut(x.side(0, 1, 0)));
        act("root", ActBoundsTest::joined, x -> x.root(0));
        act("weigh", ActBoundsTest::joined, x -> x.weigh(0, 9));
        act("span", ActBoundsTest::ready, Used::span);
        act("span again", ActBoundsTest::joined, Used::span);
        act("tree 0", ActBoundsTest::joined, x -> x.tree(0));
        act("tree 1", ActBoundsTest::ready, x -> x.tree(1));
        act("trade", ActBoundsTest::joined, x -> x.trade(x.best(0), x.best(1)));
        act("mend", ActBoundsTest::joined, Used::mend);
        act("seek", ActBoundsTest::ready, Used::seek);
    }

    static void act(String what, Run ahead, Call call) {
        Used x = new Used();
        ahead.on(x);
        int acts = x.count(7);
        due(what + " is done", call.on(x) >= 0 ? 1 : 0, 1);
        due(what + " is one act", x.count(7), acts + 1);
        sameAs(what + ", undone", ahead, y -> call.on(y) < 0 ? NONE : y.undo(), acts, NOTHING);
    }

    /** Other calls are no ACTS. */
    static void noActs() {
        Used x = new Used();
        joined(x);
        int acts = x.count(7);
        x.keep(0);
        due("15: keep is no act", x.count(7), acts);
        x.feed(0, 0, 0, 0, 0);
        x.end(3);
        due("2, 3: the tape is no act", x.count(7), acts);
        x.solid();
        due("4: a fault is no act", x.count(7), acts);
        x.itself();
        x.best(0);
        x.outline();
        x.alike(0);
        due("looks are no acts", x.count(7), acts);
        due("14: undo is no act", x.undo(), acts - 1);
        due("14: one less", x.count(7), acts - 1);
        due("16: back", x.back(0), 5);
        due("16: nothing can be undone then", x.count(7), 0);
        due("16: nothing is", x.undo(), NONE);
    }

    /** "SHELVES 0, 1: all but the TAPE, ACTS"; each for itself, kept as it was then. */
    static void shelves() {
        Used x = cross();
        due("15: shelf 2", x.keep(2), NONE);
        due("15: shelf -1", x.keep(-1), NONE);
        due("16: shelf 2", x.back(2), NONE);
        due("16: shelf -1", x.back(-1), NONE);
        due("16: nothing on 0", x.back(0), -2);
        due("16: nothing on 1", x.back(1), -2);
        due("36: no shelf", x.count(9), 0);
        due("15: keep 1", x.keep(1), 5);
        due("36: shelf 1", x.count(9), 2);
        due("16: nothing on 0 still", x.back(0), -2);
        x.cut(0);
        x.cut(1);
        x.root(3);
        x.weigh(11, 9);
        due("15: keep 0", x.keep(0), 3);
        due("36: both", x.count(9), 3);
        tell(x, TWO);
        x.tree(0);
        put(x, CUBE);
        due("16: back 1", x.back(1), 5);
        due("16: its faces", x.count(1), 6);
        due("16: its root", x.count(5), 0);
        due("16: its weight", x.edge(11, 5), 1);
        due("16: the tape stays", x.count(8), 10);
        x.weigh(0, 5);
        x.tree(1);
        due("16: back 0", x.back(0), 3);
        due("16: its own root", x.count(5), 3);
        due("16: its own weight", x.edge(11, 5), 9);
        due("16: no acts", x.count(7), 0);
        due("16: back 1 once more", x.back(1), 5);
        due("16: as it was kept", x.edge(0, 5), 1);
        due("16: its place", x.place(1, 0), 2);
        x.cut(0);
        due("15: kept in place of it", x.keep(1), 4);
        x.span();
        due("16: the later one", x.back(1), 4);
        due("16: shelf 0 is as it was", x.back(0), 3);
        due("4: told at last", x.solid(), 6);
        due("16: after that", x.back(1), 4);
    }

    /** "all but the TAPE, ACTS": the SOLID is KEPT too, with all its FACES and EDGES. */
    static void keptSolids() {
        String[] texts = {CUBE, TWO, BENT, STAR, "cube 6 6 6;cube 6 5 6;cube 5 5 6", OPEN + ";cube 0 1 0"};
        for (String text : texts) {
            for (String other : texts) {
                Used x = made(text);
                x.root(5);
                x.tree(1);
                due("15: kept", x.keep(0), x.count(1) - 1);
                tell(x, other);
                x.keep(1);
                due("16: back", x.back(0), x.count(4));
                Used y = made(text);
                y.root(5);
                y.tree(1);
                for (int f = 0; f < y.count(1) && x.left() > 30 && y.left() > 30; f++) {
                    due("16: cube of " + f, x.face(f, 0), y.face(f, 0));
                    due("16: direction of " + f, x.face(f, 1), y.face(f, 1));
                    due("16: x of " + f, x.place(f, 0), y.place(f, 0));
                    due("16: y of " + f, x.place(f, 1), y.place(f, 1));
                    due("16: edge of " + f, x.side(f, 3, 0), y.side(f, 3, 0));
                    due("16: vertex of " + f, x.corner(f, 2, 0), y.corner(f, 2, 0));
                }
                for (int what = 0; what <= 6; what++) {
                    due("16: count " + what, x.count(what), y.count(what));
                }
                due("16: the other one", x.back(1), 0);
                Used z = made(other);
                due("16: its faces", x.count(1), z.count(1));
                due("16: its vertices", x.count(3), z.count(3));
                due("16: its last edge", x.edge(x.count(2) - 1, 4), z.edge(z.count(2) - 1, 4));
            }
        }
    }

    /** "Refused: NONE ahead of -2, that ahead of -3." */
    static void refusals() {
        Used x = cross();
        due("hinge: NONE ahead of -3", x.hinge(12), NONE);
        due("hinge: -2 ahead of -3", x.hinge(0), -2);
        due("hinge: -3", x.hinge(4), -3);
        due("weigh: NONE ahead of -2", x.weigh(12, 1), NONE);
        due("trade: NONE ahead of -2", x.trade(0, 12), NONE);
        due("trade: -2 ahead of -3", x.trade(8, 9), -2);
        due("back: NONE ahead of -2", x.back(2), NONE);
        due("alike: NONE ahead of -2", x.alike(0), NONE);
        x.cut(0);
        due("trade: -2 ahead of -3, not joined", x.trade(1, 0), -2);
        due("way: NONE ahead of -3", x.way(0, 2, -2), NONE);
        due("way: -3", x.way(0, 2, NONE), -3);
        due("way: -3, first", x.way(0, 2, 0), -3);
        due("way: no face ahead of -3", x.way(0, 6, 0), NONE);
        due("alike: NONE ahead of -2, no outline", x.alike(1), NONE);
        due("alike: no shelf", x.alike(2), NONE);
        x.keep(1);
        due("alike: -2", x.alike(1), -2);
        due("part: NONE ahead of -2", x.part(12), NONE);
        due("part: -2", x.part(0), -2);
        Used y = made(BENT);
        due("gluings: NONE ahead of -3", y.gluings(), NONE);
        due("glued: NONE ahead of -3", y.glued(0, 0), NONE);
        due("lacks: NONE ahead of -3", y.lacks(0, 0), NONE);
        due("itself: NONE ahead of -3", y.itself(), NONE);
        y.span();
        due("glued: no such side ahead of -3", y.glued(0, 30), NONE);
        due("glued: below 0 ahead of -3", y.glued(-1, 0), NONE);
        due("lacks: others ahead of -3", y.lacks(0, 3), NONE);
        due("lacks: below 0 ahead of -3", y.lacks(-1, 0), NONE);
        due("glued: -3", y.glued(0, 29), -3);
        due("lacks: -3", y.lacks(0, 2), -3);
    }

    public static void main(String[] args) {
        newObject();
        backToNothing();
        toldAnew();
        hinges();
        rings();
        cuts();
        roots();
        weights();
        spans();
        trees();
        trades();
        mends();
        seeks();
        tenActs();
        eachAct();
        noActs();
        shelves();
        keptSolids();
        refusals();
        finish();
    }
}
