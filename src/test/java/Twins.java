import java.util.ArrayList;
import java.util.List;

/** Two objects used alike but for one refused call: no look tells them apart, nor what they do later. */
class Twins extends Check {
    /** Calls ahead of the refused one. */
    interface Run {
        void on(Used x);
    }

    /** One call with its answer. */
    interface Call {
        long on(Used x);
    }

    static final Call NOTHING = x -> 0;

    static void refused(String what, Run ahead, Call call, long due) {
        sameAs(what, ahead, call, due, NOTHING);
    }

    /** One twin makes the call, the other one another call in its place: they are alike then. */
    static void sameAs(String what, Run ahead, Call call, long due, Call instead) {
        compare(what, ahead, call, due, instead, NOTHING, true);
        for (int many = 1; many <= 11; many++) {
            int undone = many;
            compare(what + ", undone " + many, ahead, call, due, instead, x -> undoAll(x, undone), false);
        }
        compare(what + ", back 0", ahead, call, due, instead, x -> x.back(0), false);
        compare(what + ", back 1", ahead, call, due, instead, x -> x.back(1), false);
        compare(what + ", told", ahead, call, due, instead, Used::solid, false);
    }

    private static long undoAll(Used x, int many) {
        long all = 0;
        for (int i = 0; i < many; i++) {
            all = 31 * all + x.undo();
        }
        return all;
    }

    private static void compare(String what, Run ahead, Call call, long due, Call instead, Call later, boolean all) {
        Used probe = new Used();
        ahead.on(probe);
        instead.on(probe);
        later.on(probe);
        List<Call> looks = all ? allLooks(probe) : fewLooks(probe);
        int next = 0;
        do {
            Used one = new Used();
            Used other = new Used();
            ahead.on(one);
            ahead.on(other);
            due(what, call.on(one), due);
            instead.on(other);
            due(what + ", later", later.on(one), later.on(other));
            while (next < looks.size() && one.left() > 4 && other.left() > 4) {
                due(what + ", look " + next, looks.get(next).on(one), looks.get(next).on(other));
                next++;
            }
        } while (next < looks.size());
    }

    /** Looks at what ACTS change. */
    static List<Call> fewLooks(Used like) {
        List<Call> all = new ArrayList<>();
        for (int i = 0; i <= 10; i++) {
            int what = i;
            all.add(x -> x.count(what));
        }
        int edges = like.count(2);
        for (int i = 0; i < edges; i++) {
            int edge = i;
            all.add(x -> x.edge(edge, 5));
            all.add(x -> x.edge(edge, 6));
        }
        int faces = like.count(1);
        for (int i = 0; i < faces; i++) {
            int face = i;
            all.add(x -> x.face(face, 0) + 10 * x.face(face, 1));
            all.add(x -> x.place(face, 0));
            all.add(x -> x.place(face, 1));
        }
        all.add(x -> x.alike(0));
        all.add(x -> x.alike(1));
        return all;
    }

    static List<Call> allLooks(Used like) {
        List<Call> all = fewLooks(like);
        skinLooks(all, like.count(1), like.count(2), like.count(3));
        for (int i = 0; i < 4; i++) {
            int what = i;
            all.add(x -> x.box(what));
            all.add(x -> x.best(what));
        }
        for (int i = -1; i < 6; i++) {
            int k = i;
            all.add(x -> x.over(k));
            all.add(x -> x.free(k));
        }
        rimLooks(all, like.rim(NONE, 0));
        all.add(Used::outline);
        all.add(Used::itself);
        return all;
    }

    private static void skinLooks(List<Call> all, int faces, int edges, int vertices) {
        for (int i = 0; i < 4 * faces; i++) {
            int f = i / 4;
            int s = i % 4;
            all.add(x -> x.face(f, s));
            all.add(x -> x.side(f, s, 1));
            all.add(x -> x.corner(f, s, 0));
            all.add(x -> x.place(f, s));
            all.add(x -> x.way(0, f, s - 1));
        }
        for (int i = 0; i < edges; i++) {
            int e = i;
            all.add(x -> x.edge(e, 4));
            all.add(x -> x.edge(e, 7));
            all.add(x -> x.part(e));
        }
        for (int i = 0; i < vertices; i++) {
            int v = i;
            all.add(x -> x.vertex(v, 2));
        }
    }

    private static void rimLooks(List<Call> all, int sides) {
        all.add(x -> x.rim(NONE, 0));
        all.add(Used::gluings);
        for (int i = 0; i < sides; i++) {
            int k = i;
            all.add(x -> x.rim(k, 0) * 4 + x.rim(k, 1));
            all.add(x -> x.rim(k, 2));
            all.add(x -> x.glued(0, k));
            all.add(x -> x.glued(7, k));
            all.add(x -> x.lacks(k, 1));
        }
    }
}
