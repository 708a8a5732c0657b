/** A SolidsUnfolded that is asked for no more calls than the document promises answers for: 512. */
final class Used {
    static final int CALLS = 512;
    private final SolidsUnfolded x = new SolidsUnfolded();
    private int calls = 0;

    int left() {
        return CALLS - calls;
    }

    private SolidsUnfolded next() {
        calls++;
        if (calls > CALLS) {
            throw new IllegalStateException("a test asks one object for more than " + CALLS + " calls");
        }
        return x;
    }

    int feed(int a, int b, int c, int d, int e) {
        return next().feed(a, b, c, d, e);
    }

    int end(int n) {
        return next().end(n);
    }

    int solid() {
        return next().solid();
    }

    int hinge(int edge) {
        return next().hinge(edge);
    }

    int cut(int edge) {
        return next().cut(edge);
    }

    int root(int face) {
        return next().root(face);
    }

    int weigh(int edge, int weight) {
        return next().weigh(edge, weight);
    }

    int span() {
        return next().span();
    }

    int tree(int kind) {
        return next().tree(kind);
    }

    int trade(int edge, int hinge) {
        return next().trade(edge, hinge);
    }

    int mend() {
        return next().mend();
    }

    int seek() {
        return next().seek();
    }

    int undo() {
        return next().undo();
    }

    int keep(int shelf) {
        return next().keep(shelf);
    }

    int back(int shelf) {
        return next().back(shelf);
    }

    int face(int face, int what) {
        return next().face(face, what);
    }

    int side(int face, int side, int what) {
        return next().side(face, side, what);
    }

    int edge(int edge, int what) {
        return next().edge(edge, what);
    }

    int corner(int face, int i, int what) {
        return next().corner(face, i, what);
    }

    int vertex(int vertex, int what) {
        return next().vertex(vertex, what);
    }

    int place(int face, int what) {
        return next().place(face, what);
    }

    int over(int k) {
        return next().over(k);
    }

    int box(int what) {
        return next().box(what);
    }

    int part(int edge) {
        return next().part(edge);
    }

    int way(int face, int other, int k) {
        return next().way(face, other, k);
    }

    int free(int k) {
        return next().free(k);
    }

    int rim(int k, int what) {
        return next().rim(k, what);
    }

    int gluings() {
        return next().gluings();
    }

    int glued(int g, int k) {
        return next().glued(g, k);
    }

    int lacks(int g, int what) {
        return next().lacks(g, what);
    }

    int itself() {
        return next().itself();
    }

    long outline() {
        return next().outline();
    }

    int alike(int shelf) {
        return next().alike(shelf);
    }

    int best(int what) {
        return next().best(what);
    }

    int count(int what) {
        return next().count(what);
    }
}
