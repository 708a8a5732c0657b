/** Each promise by answers worked out by hand from the document: ordinary ones, edges, wrong inputs. */
final class PromiseTest extends Check {
    static void newObject() {
        Used x = new Used();
        for (int what = 0; what < 11; what++) {
            due("1: count " + what, x.count(what), 0);
        }
        due("1: place", x.place(0, 0), -1000);
        due("1: over", x.over(NONE), 0);
        due("1: free", x.free(NONE), 0);
        due("1: NONE", SolidsUnfolded.NONE, -1);
    }

    static void tape() {
        Used x = new Used();
        for (int i = 1; i <= 10; i++) {
            due("2: feed " + i, x.feed(0x63756265, 0x20302030, 0x20302020, 0x20202020, 0x20202020), 20 * i);
        }
        due("2: feed beyond 200", x.feed(0, 0, 0, 0, 0), NONE);
        due("2: nothing came", x.count(8), 200);
        due("3: end 201", x.end(201), NONE);
        due("3: end -1", x.end(-1), NONE);
        due("3: end least", x.end(LEAST), NONE);
        due("3: end 181", x.end(181), 181);
        due("3: count", x.count(8), 181);
        due("2: feed at 181", x.feed(0, 0, 0, 0, 0), NONE);
        due("3: end 180", x.end(180), 180);
        due("3: end 181 again", x.end(181), NONE);
        due("2: feed at 180", x.feed(0, 0, 0, 0, 0), 200);
        due("3: end 20", x.end(20), 20);
        due("2: bytes highest first", x.solid(), 6);
        due("3: end of none", x.end(0), 0);
        due("2: negative numbers", x.feed(-1, -1, -1, -1, -1), 20);
        due("2: bytes 255", x.solid(), -2 - 1);
    }

    static void fault(String text, int place, int kind) {
        Used x = new Used();
        due("4: fault of '" + text + "'", tell(x, text), -2 - 8 * place - kind);
        due("4: no solid", x.count(1), 0);
        due("4: the tape is empty", x.count(8), 0);
    }

    static void faults() {
        String six = "cube0 0 0;cube0 0 1;cube0 0 2;cube0 0 3;cube0 0 4;cube0 0 5;";
        fault("", 0, 1);
        fault("   ", 3, 1);
        fault("cube", 4, 1);
        fault("cub 0 0 0", 0, 1);
        fault("  cubes 0 0 0", 2, 1);
        fault("Cube 0 0 0", 0, 1);
        fault("cubea 0 0 0", 0, 1);
        fault(" cubez0 0 0", 1, 1);
        fault("cube{0 0 0", 4, 1);
        fault("cube`0 0 0", 4, 1);
        fault("cube 0 0 0:", 10, 1);
        fault("cube 0 0 0/", 10, 1);
        fault("0 0 0", 0, 1);
        fault("cube 0 0", 8, 1);
        fault("cube 0 0 ", 9, 1);
        fault("cube 0 x 0", 7, 1);
        fault("cube 0 0;0", 8, 1);
        fault("cube 0 0 0 0", 11, 1);
        fault("cube 0 0 0 cube 0 0 1", 11, 1);
        fault("cube 0 0 0;", 11, 1);
        fault("cube 0 0 0; ;", 12, 1);
        fault("cube -1 0 0", 5, 1);
        fault("cube 0 0\t0", 8, 1);
        fault("cube 7 0 0", 5, 2);
        fault("cube 0 007 0", 7, 2);
        fault("cube 0 0 10", 9, 2);
        fault("cube 99999999999999999999 0 x", 5, 2);
        fault("cube 4294967296 0 0", 5, 2);
        fault(six + "cube0 0 6;cube0 1 0", 70, 3);
        fault(six + "cube0 0 6; cube 9", 71, 3);
        fault(six + "cube0 0 6; cub", 71, 1);
        fault(six + "cube0 0 6;", 70, 1);
        fault("cube 0 0 0;cube 0 0 0;", 20, 4);
        fault("cube 0 0 0;cube 0 0 2", 20, 4);
        fault("cube 0 0 0;cube 1 1 00 ", 20, 4);
        fault("cube 0 0 0;cube 1 1 7", 20, 2);
        fault("cube 0 0 0;cube 0 0 1;cube 0 0 2;cube 0 1 2;cube 0 2 2;cube 0 2 1;cube 0 1 0 ", 77, 5);
        due("4: seven cubes", tell(new Used(), six + "cube0 0 6"), 30);
        due("4: blanks as one likes", tell(new Used(), " cube00 06  006;cube 0 6 5 "), 10);
        due("4: a word just behind a number", tell(new Used(), "cube0 0 0cube"), -2 - 8 * 9 - 1);
        due("4: corners alone may touch", tell(new Used(),
            "cube 0 0 0;cube 1 0 0;cube 1 1 0;cube 0 1 0"), 16);
    }

    static void solid() {
        Used x = cross();
        x.weigh(3, 7);
        x.root(4);
        x.keep(0);
        due("4: a fault leaves the solid", tell(x, "cube"), -2 - 33);
        due("4: faces stay", x.count(1), 6);
        due("4: hinges stay", x.count(4), 5);
        due("4: acts stay", x.count(7), 3);
        due("4: anew", tell(x, BENT), 14);
        due("4: all cut", x.count(4), 0);
        due("4: weights 1", x.edge(3, 5), 1);
        due("4: root 0", x.count(5), 0);
        due("4: nothing to undo", x.undo(), NONE);
        due("4: shelves stay", x.count(9), 1);
        due("4: cubes", x.count(0), 3);
        due("4: edges", x.count(2), 28);
        due("4: vertices", x.count(3), 16);
    }

    static void hingesAndCuts() {
        Used x = made(CUBE);
        due("5: hinge 0", x.hinge(0), 1);
        due("5: again", x.hinge(0), -2);
        due("5: hinge 1", x.hinge(1), 2);
        due("5: no edge 12", x.hinge(12), NONE);
        due("5: no edge -1", x.hinge(-1), NONE);
        due("5: no edge least", x.hinge(LEAST), NONE);
        due("5: refused is no act", x.count(7), 2);
        // Face 0 has sides to 2, 4, 3, 5: edge 8 joins 2 and 4.
        due("5: edge 8, one face", x.edge(8, 0), 2);
        due("5: edge 8, other face", x.edge(8, 1), 4);
        due("5: joined already", x.hinge(8), -3);
        due("6: cut 12", x.cut(12), NONE);
        due("6: cut -1", x.cut(-1), NONE);
        due("6: cut of a cut one", x.cut(8), -2);
        due("6: cut 0", x.cut(0), 1);
        due("5: not joined any more", x.hinge(8), 2);
        due("6: acts", x.count(7), 4);
    }

    static void rootAndWeigh() {
        Used x = made(CUBE);
        due("7: root 0", x.root(0), -2);
        due("7: root 6", x.root(6), NONE);
        due("7: root -1", x.root(-1), NONE);
        due("7: root 5", x.root(5), 0);
        due("7: root 2", x.root(2), 5);
        due("7: count", x.count(5), 2);
        due("7: placed is the root", x.face(2, 3), 1);
        due("7: at 0", x.place(2, 1), 0);
        due("7: 0 no more", x.place(0, 0), -1000);
        due("8: weigh", x.weigh(11, 0), 1);
        due("8: again", x.weigh(11, 0), -2);
        due("8: 9", x.weigh(11, 9), 0);
        due("8: 10", x.weigh(11, 10), NONE);
        due("8: -1", x.weigh(11, -1), NONE);
        due("8: no edge", x.weigh(12, 1), NONE);
        due("8: no edge -1", x.weigh(-1, 1), NONE);
        due("8: edge", x.edge(11, 5), 9);
        due("8: acts", x.count(7), 4);
    }

    static void trees() {
        Used x = made(CUBE);
        x.hinge(11);
        // By number: 0 to 3 join face 0 with 2, 4, 3, 5; edge 4 joins 1 with 4.
        due("9: span", x.span(), 5);
        for (int e = 0; e < 12; e++) {
            due("9: edge " + e, x.edge(e, 6), e < 5 ? 1 : 0);
        }
        x.weigh(0, 0);
        x.weigh(1, 3);
        x.weigh(11, 0);
        due("9: span by weights", x.span(), 3);
        due("9: dear edge 1", x.edge(1, 6), 0);
        due("9: cheap edge 11", x.edge(11, 6), 1);
        due("9: edge 3 makes a ring", x.edge(3, 6), 0);
        due("10: tree 2", x.tree(2), NONE);
        due("10: tree -1", x.tree(-1), NONE);
        due("10: by breadth", x.tree(0), 2);
        due("10: face 0", x.face(0, 2), 4);
        due("10: last behind face 2", x.way(0, 1, 1), 2);
        // 0, 2, 4, 1, 5, 3: each the first one not come to.
        due("10: by depth", x.tree(1), 5);
        int[] way = {0, 2, 4, 1, 5, 3};
        for (int k = 0; k < 6; k++) {
            due("10: depth " + k, x.way(0, 3, k), way[k]);
        }
        x.root(3);
        due("10: from another root", x.tree(0), 2);
        due("10: root's hinges", x.face(3, 2), 4);
        Used y = made(CUBE);
        for (int e = 0; e < 12; e++) {
            y.weigh(e, 9);
        }
        due("9: dearest ones", y.span(), 45);
        due("9: no solid", new Used().span(), NONE);
        due("10: no solid", new Used().tree(0), NONE);
        due("9: no act without", new Used().count(7), 0);
    }

    static void trades() {
        Used x = cross();
        int behind = x.side(1, 1, 0);
        due("11: face 2 behind side 1 of 1", x.side(1, 1, 1), 2);
        due("11: a trade", x.trade(4, behind), 0);
        due("11: done", x.edge(4, 6), 1);
        due("11: cut then", x.edge(behind, 6), 0);
        due("11: they are not so", x.trade(4, 0), -2);
        due("11: both cut", x.trade(behind, 8), -2);
        due("11: one and the same", x.trade(behind, behind), -2);
        due("11: no edge", x.trade(12, 0), NONE);
        due("11: no hinge", x.trade(behind, 12), NONE);
        due("11: -1", x.trade(-1, -1), NONE);
        due("11: ring without it", x.trade(behind, 3), -3);
        due("11: acts", x.count(7), 2);
        x.cut(0);
        due("11: not all joined", x.trade(0, 4), -3);
        due("12: not all joined", x.mend(), NONE);
        due("35: not all joined", x.best(0), NONE);
        Used y = made(BENT);
        due("11: overlaps by breadth", y.tree(0), 3);
        due("23: one", y.over(NONE), 1);
        due("23: which", y.over(0), 509);
        due("23: no second", y.over(1), -2);
        due("35: edge", y.best(0), 11);
        due("35: hinge", y.best(1), 15);
        due("35: overlaps", y.best(2), 0);
        due("35: 3", y.best(3), NONE);
        due("35: -1", y.best(-1), NONE);
        due("33: no outline", y.outline(), 0);
        due("12: mend", y.mend(), 1);
        due("12: mended", y.over(NONE), 0);
        due("12: by edge 11", y.edge(11, 6), 1);
        due("12: by edge 15", y.edge(15, 6), 0);
        due("12: nothing to mend is an act", y.mend(), 0);
        due("12: acts", y.count(7), 3);
        y.undo();
        due("12: undone", y.undo(), 1);
        due("11: overlaps of a trade", y.trade(11, 15), 0);
        due("12: no solid", new Used().mend(), NONE);
    }

    static void firstNet() {
        Used x = made(CUBE);
        due("13: seek", x.seek(), 6);
        due("13: hinge 4", x.edge(4, 6), 1);
        due("13: face 1", x.place(1, 1), 2);
        due("13: no solid", new Used().seek(), NONE);
        Used y = made("cube 3 3 3;cube 2 3 3;cube 4 3 3;cube 3 2 3;cube 3 4 3;cube 3 3 2;cube 3 3 4");
        due("13: thirty faces", y.count(1), 30);
        due("13: steps", y.seek(), 218);
        due("13: a net", y.over(NONE), 0);
        due("13: all placed", y.count(6), 30);
        due("13: an act", y.count(7), 1);
        Used most = made("cube 5 6 5;cube 6 6 5;cube 4 6 5;cube 5 5 5;cube 4 6 6;cube 5 6 4");
        most.root(20);
        due("13: 3000 steps", most.seek(), 3000);
        due("13: a net of them", most.over(NONE), 0);
        Used more = made("cube 4 2 2;cube 4 1 2;cube 3 2 2;cube 4 3 2;cube 5 3 2;cube 3 2 3;cube 2 2 2");
        more.root(9);
        more.hinge(5);
        due("13: 3001 steps", more.seek(), -3);
        due("13: nothing happens", more.count(4), 1);
        due("13: no act", more.count(7), 2);
    }

    static void undone() {
        Used x = made(CUBE);
        due("14: none", x.undo(), NONE);
        for (int w = 2; w <= 9; w++) {
            x.weigh(0, w);
        }
        x.hinge(0);
        x.root(3);
        due("14: ten", x.count(7), 10);
        x.tree(0);
        x.cut(0);
        due("14: ten at most", x.count(7), 10);
        due("14: undo cut", x.undo(), 9);
        due("14: hinge again", x.edge(0, 6), 1);
        due("14: undo tree", x.undo(), 8);
        due("14: one hinge", x.count(4), 1);
        due("14: undo root", x.undo(), 7);
        due("14: root", x.count(5), 0);
        due("14: placed by it", x.count(6), 2);
        for (int left = 6; left >= 0; left--) {
            due("14: left " + left, x.undo(), left);
        }
        due("14: no more", x.undo(), NONE);
        due("14: the first two stand", x.edge(0, 5), 3);
        due("14: cut", x.edge(0, 6), 0);
    }

    static void shelves() {
        Used x = new Used();
        due("15: no shelf 2", x.keep(2), NONE);
        due("15: no shelf -1", x.keep(-1), NONE);
        due("16: no shelf 2", x.back(2), NONE);
        due("16: no shelf -1", x.back(-1), NONE);
        due("16: nothing", x.back(1), -2);
        due("15: nothing can be kept", x.keep(1), 0);
        due("15: shelves", x.count(9), 2);
        tell(x, CUBE);
        x.tree(1);
        x.root(3);
        x.weigh(7, 4);
        due("15: keep", x.keep(0), 5);
        due("15: shelves both", x.count(9), 3);
        due("15: keeping is no act", x.count(7), 3);
        x.feed(0, 0, 0, 0, 0);
        due("16: back to no solid", x.back(1), 0);
        due("16: no faces", x.count(1), 0);
        due("16: the tape stays", x.count(8), 20);
        tell(x, TWO);
        x.span();
        due("16: back", x.back(0), 5);
        due("16: faces", x.count(1), 6);
        due("16: root", x.count(5), 3);
        due("16: weight", x.edge(7, 5), 4);
        due("16: nothing to undo", x.undo(), NONE);
        x.cut(0);
        due("16: back again", x.back(0), 5);
        due("16: kept still", x.count(9), 3);
    }

    static void skin() {
        Used x = made(BENT);
        // Cube 0 has faces 0 to 3 (1, 3, 4, 5), cube 1 4 to 8 (0, 2, 3, 4, 5), cube 2 9 to 13 (0, 1, 2, 4, 5).
        int[] cubes = {0, 0, 0, 0, 1, 1, 1, 1, 1, 2, 2, 2, 2, 2};
        int[] ways = {1, 3, 4, 5, 0, 2, 3, 4, 5, 0, 1, 2, 4, 5};
        for (int f = 0; f < 14; f++) {
            due("17: cube of " + f, x.face(f, 0), cubes[f]);
            due("17: direction of " + f, x.face(f, 1), ways[f]);
        }
        due("17: hinges", x.face(0, 2), 0);
        due("17: 4", x.face(0, 4), NONE);
        due("17: -1", x.face(0, -1), NONE);
        due("17: no face", x.face(14, 0), NONE);
        due("17: no face -1", x.face(-1, 0), NONE);
        // Face 5 (y rising of cube 1) looks z, x, back z, back x: face 9 looks towards it there.
        due("18: behind", x.side(5, 3, 1), 9);
        due("18: its side", x.side(5, 3, 2), 2);
        int bent = x.side(5, 3, 0);
        due("18: one edge", x.side(9, 2, 0), bent);
        due("18: no side 4", x.side(5, 4, 0), NONE);
        due("18: no side -1", x.side(5, -1, 0), NONE);
        due("18: 3", x.side(5, 0, 3), NONE);
        due("18: no face", x.side(14, 0, 0), NONE);
        due("19: lesser face", x.edge(bent, 0), 5);
        due("19: other face", x.edge(bent, 1), 9);
        due("19: side", x.edge(bent, 2), 3);
        due("19: other side", x.edge(bent, 3), 2);
        due("19: looks towards", x.edge(bent, 4), 2);
        // Face 2 (z rising of cube 0) looks x first: face 7 of cube 1, in one plane.
        due("19: flat", x.edge(x.side(2, 0, 0), 4), 1);
        due("19: behind flat", x.side(2, 0, 1), 7);
        due("19: of one cube", x.edge(x.side(0, 0, 0), 4), 0);
        due("19: weight", x.edge(bent, 5), 1);
        due("19: not free", x.edge(bent, 7), 0);
        due("19: 8", x.edge(bent, 8), NONE);
        due("19: -1", x.edge(bent, -1), NONE);
        due("19: no edge", x.edge(28, 0), NONE);
        due("20: first corner", x.corner(0, 0, 0), 0);
        due("20: last corner of it", x.corner(0, 3, 0), 3);
        // Corner 3 of face 5 lies where x is 1, y 1, z 2 of three: five faces.
        due("20: five round", x.corner(5, 3, 1), 5);
        due("20: same vertex", x.corner(9, 1, 0), x.corner(5, 3, 0));
        due("20: no corner 4", x.corner(5, 4, 0), NONE);
        due("20: no corner -1", x.corner(5, -1, 0), NONE);
        due("20: 2", x.corner(5, 0, 2), NONE);
        due("20: no face", x.corner(14, 0, 0), NONE);
        int five = x.corner(5, 3, 0);
        due("21: five", x.vertex(five, 0), 5);
        due("21: less", x.vertex(five, 1), -1);
        due("21: cuts", x.vertex(five, 2), 5);
        x.hinge(bent);
        due("21: a cut less", x.vertex(five, 2), 4);
        due("21: 3", x.vertex(five, 3), NONE);
        due("21: no vertex", x.vertex(16, 0), NONE);
        due("21: no vertex -1", x.vertex(-1, 0), NONE);
        due("17: a hinge", x.face(5, 2), 1);
        due("19: a hinge", x.edge(bent, 6), 1);
        due("17: not placed", x.face(5, 3), 0);
    }

    static void plane() {
        Used x = cross();
        int[][] spots = {{0, 0, 0}, {2, 0, 1}, {1, 0, 1}, {-1, 0, 0}, {0, 1, 3}, {0, -1, 0}};
        for (int f = 0; f < 6; f++) {
            for (int what = 0; what < 3; what++) {
                due("22: place " + f + " " + what, x.place(f, what), spots[f][what]);
            }
        }
        due("22: 3", x.place(0, 3), -1000);
        due("22: -1", x.place(0, -1), -1000);
        due("22: no face", x.place(6, 0), -1000);
        due("22: no face -1", x.place(-1, 0), -1000);
        due("23: none", x.over(NONE), 0);
        due("23: no first", x.over(0), -2);
        due("23: -2", x.over(-2), NONE);
        due("23: most", x.over(MOST), -2);
        int[] box = {-1, -1, 2, 1};
        for (int what = 0; what < 4; what++) {
            due("24: box " + what, x.box(what), box[what]);
        }
        due("24: 4", x.box(4), -1000);
        due("24: -1", x.box(-1), -1000);
        due("24: no solid", new Used().box(0), -1000);
        due("25: face 2 and behind", x.part(0), 4 + 2);
        due("25: face 4", x.part(1), 16);
        due("25: no hinge", x.part(8), -2);
        due("25: no edge", x.part(12), NONE);
        due("25: no edge -1", x.part(-1), NONE);
        x.root(1);
        due("25: from the other side", x.part(0), 1 + 8 + 16 + 32);
        Used y = made(CUBE);
        y.hinge(8);
        due("25: none placed", y.part(8), 0);
    }

    static void ways() {
        Used x = cross();
        int[] way = {1, 2, 0, 5};
        due("26: how far", x.way(1, 5, NONE), 3);
        for (int k = 0; k < 4; k++) {
            due("26: " + k, x.way(1, 5, k), way[k]);
            due("26: back " + k, x.way(5, 1, k), way[3 - k]);
        }
        due("26: 4", x.way(1, 5, 4), -2);
        due("26: most", x.way(1, 5, MOST), -2);
        due("26: -2", x.way(1, 5, -2), NONE);
        due("26: to itself", x.way(4, 4, NONE), 0);
        due("26: itself", x.way(4, 4, 0), 4);
        due("26: no face", x.way(6, 0, 0), NONE);
        due("26: no other", x.way(0, -1, 0), NONE);
        x.cut(0);
        due("26: not joined", x.way(1, 5, NONE), -3);
        due("26: not joined, 0", x.way(1, 5, 0), -3);
        due("26: not joined, -2", x.way(1, 5, -2), NONE);
        due("26: joined still", x.way(1, 2, NONE), 1);
    }

    static void freeEdges() {
        // Faces 2, 7, 12 (z rising) lie in one plane with 2 in the corner: none closes a ring of four.
        Used x = made("cube 0 0 0;cube 1 0 0;cube 1 1 0;cube 0 1 0");
        int[] up = new int[4];
        for (int f = 0; f < 16; f++) {
            if (x.face(f, 1) == 4) {
                up[x.face(f, 0)] = f;
            }
        }
        int last = NONE;
        x.root(up[0]);
        for (int side = 0; side < 4; side++) {
            for (int c = 0; c < 4; c++) {
                if (x.side(up[c], side, 1) == up[(c + 1) % 4]) {
                    int edge = x.side(up[c], side, 0);
                    if (c == 3) {
                        last = edge;
                    } else {
                        due("27: hinge", x.hinge(edge) > 0 ? 1 : 0, 1);
                    }
                }
            }
        }
        due("27: one free", x.free(NONE), 1);
        due("27: that", x.free(0), last);
        due("27: no second", x.free(1), -2);
        due("27: -2", x.free(-2), NONE);
        due("19: free", x.edge(last, 7), 1);
        due("36: cut but one free", x.count(10), 32 - 16 + 16 - 3 - 1);
        due("27: as a hinge it would be a ring", x.hinge(last), -3);
        due("27: none", cross().free(NONE), 0);
        due("27: no first", cross().free(0), -2);
    }

    static void rims() {
        Used x = cross();
        int[][] rim = {{1, 0, 1, 3}, {2, 0, 2, 2}, {4, 1, 3, 1}, {4, 2, 1, 0}};
        for (int k = 0; k < 4; k++) {
            for (int what = 0; what < 4; what++) {
                due("28: rim " + k + " " + what, x.rim(k, what), rim[k][what]);
            }
        }
        due("28: how many", x.rim(NONE, 0), 14);
        due("28: NONE, 1", x.rim(NONE, 1), NONE);
        due("28: 14", x.rim(14, 0), NONE);
        due("28: -2", x.rim(-2, 0), NONE);
        due("28: 4", x.rim(0, 4), NONE);
        due("28: -1", x.rim(0, -1), NONE);
        int angles = 0;
        for (int k = 0; k < 14; k++) {
            angles += x.rim(k, 2);
            due("28: partners", x.rim(x.rim(k, 3), 3), k);
        }
        due("28: all angles", angles, 24);
        x.cut(0);
        due("28: not all joined", x.rim(NONE, 0), NONE);
        due("28: not all joined, 0", x.rim(0, 0), NONE);
    }

    static void glue() {
        Used x = cross();
        int many = x.gluings();
        due("29: of the cross", many, 17);
        int own = x.itself();
        due("32: its own", own, 5);
        due("31: eight points", x.lacks(own, 0), 8);
        due("31: all lack one", x.lacks(own, 1), 8);
        due("31: three each", x.lacks(own, 2), 3);
        for (int g = 0; g < many; g++) {
            x = cross();
            boolean later = g == 0;
            for (int k = 0; k < 14; k++) {
                int mate = x.glued(g, k);
                due("30: both ways", x.glued(g, mate), k);
                due("30: as partners", g == own ? mate : x.rim(k, 3), x.rim(k, 3));
                if (!later && mate != x.glued(g - 1, k)) {
                    due("30: by rows", mate > x.glued(g - 1, k) ? 1 : 0, 1);
                    later = true;
                }
            }
            due("30: no two alike", later ? 1 : 0, 1);
            due("31: points", x.lacks(g, 0), 8);
        }
        x = cross();
        due("30: no such gluing", x.glued(many, 0), NONE);
        due("30: -1", x.glued(-1, 0), NONE);
        due("30: no side 14", x.glued(0, 14), NONE);
        due("30: no side -1", x.glued(0, -1), NONE);
        due("31: no such gluing", x.lacks(many, 0), NONE);
        due("31: -1", x.lacks(-1, 0), NONE);
        due("31: 3", x.lacks(0, 3), NONE);
        Used y = made(TWO);
        due("29: not all joined", y.gluings(), NONE);
        due("30: not all joined", y.glued(0, 0), NONE);
        due("31: not all joined", y.lacks(0, 0), NONE);
        due("32: not all joined", y.itself(), NONE);
        y.tree(0);
        due("29: 22 sides", y.gluings(), 17);
        due("32: 22 sides", y.itself(), 15);
        due("31: twelve points", y.lacks(15, 0), 12);
        due("31: eight lack", y.lacks(15, 1), 8);
        Used z = made(BENT);
        z.tree(0);
        due("29: 30 sides", z.gluings(), -3);
        due("30: any", z.glued(MOST, 29), -3);
        due("30: without the side", z.glued(0, 30), NONE);
        due("30: below 0", z.glued(-1, 0), NONE);
        due("31: any", z.lacks(MOST, 2), -3);
        due("31: others", z.lacks(0, 3), NONE);
        due("32: 30 sides", z.itself(), -3);
    }

    static void outlines() {
        Used x = cross();
        // Cells 0 1; 1 0, 1 1, 1 2, 1 3; 2 1 (y, x).
        long number = 17;
        for (int cell : new int[] {1, 64, 65, 66, 67, 129}) {
            number = 31 * number + cell;
        }
        due("33: the cross", x.outline(), number);
        x.keep(0);
        x.root(1);
        due("33: turned", x.outline(), number);
        due("34: turned", x.alike(0), 1);
        x.tree(1);
        due("34: another one", x.alike(0), 0);
        due("34: nothing kept", x.alike(1), NONE);
        due("34: no shelf", x.alike(2), NONE);
        due("34: no shelf -1", x.alike(-1), NONE);
        x.cut(x.side(1, 0, 0));
        x.cut(x.side(1, 1, 0));
        x.cut(x.side(1, 2, 0));
        x.cut(x.side(1, 3, 0));
        due("33: not all joined", x.outline(), 0);
        due("34: none now", x.alike(0), -2);
        x.keep(1);
        x.tree(0);
        due("34: none kept", x.alike(1), -2);
        tell(x, TWO);
        x.tree(0);
        due("34: of another solid", x.alike(0), 0);
        x.keep(0);
        due("34: itself", x.alike(0), 1);
        x.tree(1);
        x.keep(1);
        x.tree(0);
        due("34: kept as it was then", x.alike(1), 0);
        due("33: no solid", new Used().outline(), 0);
    }

    static void counts() {
        Used x = cross();
        int[] due = {1, 6, 12, 8, 5, 0, 6, 1, 0, 0, 7};
        for (int what = 0; what < due.length; what++) {
            due("36: " + what, x.count(what), due[what]);
        }
        due("36: 11", x.count(11), NONE);
        due("36: -1", x.count(-1), NONE);
        due("36: least", x.count(LEAST), NONE);
    }

    public static void main(String[] args) {
        newObject();
        tape();
        faults();
        solid();
        hingesAndCuts();
        rootAndWeigh();
        trees();
        trades();
        firstNet();
        undone();
        shelves();
        skin();
        plane();
        ways();
        freeEdges();
        rims();
        glue();
        outlines();
        counts();
        finish();
    }
}
