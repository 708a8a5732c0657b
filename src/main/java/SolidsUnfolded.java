/** Solids of cubes whose skin of squares is unfolded onto a plane and glued again. */
public final class SolidsUnfolded {
    public static final int NONE = -1;

    private static final int NOT_SO = -2;
    private static final int CANNOT = -3;
    private static final int NOWHERE = -1000;

    private static final int MOST_BYTES = 200;
    private static final int MOST_CUBES = 7;
    private static final int MOST_NUMBER = 6;
    // Seven cubes in a tree of common sides: 7 * 6 - 6 * 2.
    private static final int MOST_FACES = 30;
    private static final int MOST_SLOTS = 4 * MOST_FACES;
    private static final int MOST_EDGES = 2 * MOST_FACES;
    private static final int MOST_OVERLAPS = MOST_FACES * (MOST_FACES - 1) / 2;
    private static final int MOST_WEIGHT = 9;
    private static final int MOST_ACTS = 10;
    private static final int MOST_STEPS = 3000;
    private static final int MOST_RIM = 2 * MOST_FACES + 2;
    private static final int MOST_GLUED = 22;
    // Of all 384 and 31500 trees of hinges on one and on two CUBES none has more than 36.
    private static final int MOST_GLUINGS = 64;
    private static final int MOST_TURNS = 1000000;
    private static final int WHOLE_TURN = 4;
    private static final int SHELVES = 2;

    // To which direction (0 to 5) SIDES 0 to 3 look, for FACES of directions 0 to 5.
    private static final int[] LOOKS = {
        2, 4, 3, 5,
        4, 2, 5, 3,
        4, 0, 5, 1,
        0, 4, 1, 5,
        0, 2, 1, 3,
        2, 0, 3, 1};
    private static final int[] STEP_X = {1, 0, -1, 0};
    private static final int[] STEP_Y = {0, 1, 0, -1};

    private final int[] tape = new int[MOST_BYTES];
    private int tapeLength = 0;
    private final Reader reader = new Reader();
    private final Skin skin = new Skin();
    private final Joints joints = new Joints();
    private final Sheet sheet = new Sheet();
    private final Trader trader = new Trader(skin, sheet);
    private final Seeker seeker = new Seeker();
    private final Border border = new Border();
    private final Gluer gluer = new Gluer();
    private final Silhouette silhouette = new Silhouette();
    private final History history = new History();
    private final Shelf[] shelves = new Shelf[SHELVES];

    public SolidsUnfolded() {
        for (int i = 0; i < SHELVES; i++) {
            shelves[i] = new Shelf();
        }
    }

    // ---- the TAPE and the SOLID

    public int feed(int a, int b, int c, int d, int e) {
        if (tapeLength + 20 > MOST_BYTES) {
            return NONE;
        }
        putFour(a);
        putFour(b);
        putFour(c);
        putFour(d);
        putFour(e);
        return tapeLength;
    }

    private void putFour(int number) {
        for (int shift = 24; shift >= 0; shift -= 8) {
            if (tapeLength < MOST_BYTES) {
                tape[tapeLength] = (number >>> shift) & 255;
                tapeLength++;
            }
        }
    }

    public int end(int n) {
        if (n < 0 || n > tapeLength) {
            return NONE;
        }
        tapeLength = n;
        return n;
    }

    public int solid() {
        int fault = reader.read(tape, tapeLength);
        tapeLength = 0;
        if (fault != NONE) {
            return -2 - fault;
        }
        skin.make(reader.spots, reader.cubes);
        joints.begin();
        history.forget();
        settle();
        return skin.faces;
    }

    // ---- ACTS

    public int hinge(int edge) {
        if (!isEdge(edge)) {
            return NONE;
        }
        if (joints.isHinge(edge)) {
            return NOT_SO;
        }
        if (skin.isJoined(skin.faceOf(edge, 0), skin.faceOf(edge, 1), joints.hinges)) {
            return CANNOT;
        }
        history.remember(joints);
        joints.setHinge(edge);
        settle();
        return joints.howMany();
    }

    public int cut(int edge) {
        if (!isEdge(edge)) {
            return NONE;
        }
        if (!joints.isHinge(edge)) {
            return NOT_SO;
        }
        history.remember(joints);
        joints.setCut(edge);
        settle();
        return joints.howMany();
    }

    public int root(int face) {
        if (!isFace(face)) {
            return NONE;
        }
        if (joints.root == face) {
            return NOT_SO;
        }
        history.remember(joints);
        int before = joints.root;
        joints.root = face;
        settle();
        return before;
    }

    public int weigh(int edge, int weight) {
        if (!isEdge(edge) || weight < 0 || weight > MOST_WEIGHT) {
            return NONE;
        }
        int before = joints.weights[edge];
        if (before == weight) {
            return NOT_SO;
        }
        history.remember(joints);
        joints.weights[edge] = weight;
        return before;
    }

    public int span() {
        if (skin.faces == 0) {
            return NONE;
        }
        history.remember(joints);
        joints.hinges = 0L;
        int sum = 0;
        for (int weight = 0; weight <= MOST_WEIGHT; weight++) {
            sum += weight * spanBy(weight);
        }
        settle();
        return sum;
    }

    private int spanBy(int weight) {
        int many = 0;
        for (int edge = 0; edge < skin.edges && edge < MOST_EDGES; edge++) {
            if (joints.weights[edge] == weight
                    && !skin.isJoined(skin.faceOf(edge, 0), skin.faceOf(edge, 1), joints.hinges)) {
                joints.setHinge(edge);
                many++;
            }
        }
        return many;
    }

    public int tree(int kind) {
        if (kind < 0 || kind > 1 || skin.faces == 0) {
            return NONE;
        }
        history.remember(joints);
        int far = kind == 0 ? skin.growByBreadth(joints) : skin.growByDepth(joints);
        settle();
        return far;
    }

    public int trade(int edge, int hinge) {
        if (!isEdge(edge) || !isEdge(hinge)) {
            return NONE;
        }
        if (joints.isHinge(edge) || !joints.isHinge(hinge)) {
            return NOT_SO;
        }
        long without = joints.hinges & ~(1L << hinge);
        if (!allJoined() || skin.isJoined(skin.faceOf(edge, 0), skin.faceOf(edge, 1), without)) {
            return CANNOT;
        }
        history.remember(joints);
        joints.swap(edge, hinge);
        settle();
        return sheet.overlap(NONE);
    }

    public int mend() {
        if (!allJoined()) {
            return NONE;
        }
        history.remember(joints);
        int trades = 0;
        // Each trade takes one OVERLAP away at least.
        while (trades < MOST_OVERLAPS) {
            trader.look(joints);
            if (trader.edge == NONE || trader.overlaps >= sheet.overlap(NONE)) {
                break;
            }
            joints.swap(trader.edge, trader.hinge);
            settle();
            trades++;
        }
        return trades;
    }

    public int seek() {
        if (skin.faces == 0) {
            return NONE;
        }
        int steps = seeker.find(skin, joints.root);
        if (steps < 0) {
            return steps;
        }
        history.remember(joints);
        joints.hinges = seeker.hinges;
        settle();
        return steps;
    }

    public int undo() {
        if (!history.bringBack(joints)) {
            return NONE;
        }
        settle();
        return history.size;
    }

    public int keep(int shelf) {
        if (!isShelf(shelf)) {
            return NONE;
        }
        silhouette.draw(sheet, netFaces());
        shelves[shelf].store(skin, joints, silhouette);
        return joints.howMany();
    }

    public int back(int shelf) {
        if (!isShelf(shelf)) {
            return NONE;
        }
        Shelf from = shelves[shelf];
        if (!from.kept) {
            return NOT_SO;
        }
        skin.make(from.spots, from.cubes);
        joints.copy(from.joints);
        history.forget();
        settle();
        return joints.howMany();
    }

    // ---- what there is

    public int face(int face, int what) {
        if (!isFace(face)) {
            return NONE;
        }
        switch (what) {
            case 0:
                return skin.cubeOf[face];
            case 1:
                return skin.directionOf[face];
            case 2:
                return hingesOf(face);
            case 3:
                return sheet.holds(face) ? 1 : 0;
            default:
                return NONE;
        }
    }

    private int hingesOf(int face) {
        int many = 0;
        for (int side = 0; side < 4; side++) {
            if (joints.isHinge(skin.edgeAt[4 * face + side])) {
                many++;
            }
        }
        return many;
    }

    public int side(int face, int side, int what) {
        if (!isFace(face) || side < 0 || side > 3) {
            return NONE;
        }
        int slot = 4 * face + side;
        switch (what) {
            case 0:
                return skin.edgeAt[slot];
            case 1:
                return skin.across[slot] >> 2;
            case 2:
                return skin.across[slot] & 3;
            default:
                return NONE;
        }
    }

    public int edge(int edge, int what) {
        if (!isEdge(edge)) {
            return NONE;
        }
        switch (what) {
            case 0:
            case 1:
                return skin.faceOf(edge, what);
            case 2:
            case 3:
                return skin.slotsOf[2 * edge + what - 2] & 3;
            case 4:
                return skin.bendOf[edge];
            case 5:
                return joints.weights[edge];
            case 6:
                return joints.isHinge(edge) ? 1 : 0;
            case 7:
                return isFree(edge) ? 1 : 0;
            default:
                return NONE;
        }
    }

    public int corner(int face, int i, int what) {
        if (!isFace(face) || i < 0 || i > 3) {
            return NONE;
        }
        int vertex = skin.vertexAt[4 * face + i];
        switch (what) {
            case 0:
                return vertex;
            case 1:
                return isVertex(vertex) ? skin.facesRound[vertex] : NONE;
            default:
                return NONE;
        }
    }

    public int vertex(int vertex, int what) {
        if (!isVertex(vertex)) {
            return NONE;
        }
        switch (what) {
            case 0:
                return skin.facesRound[vertex];
            case 1:
                return WHOLE_TURN - skin.facesRound[vertex];
            case 2:
                return cutsAt(vertex);
            default:
                return NONE;
        }
    }

    // Round a VERTEX each EDGE is just once the SIDE behind a corner.
    private int cutsAt(int vertex) {
        int many = 0;
        for (int slot = 0; slot < 4 * skin.faces && slot < MOST_SLOTS; slot++) {
            if (skin.vertexAt[slot] == vertex && !joints.isHinge(skin.edgeAt[nextSlot(slot)])) {
                many++;
            }
        }
        return many;
    }

    // ---- what lies in the plane

    public int place(int face, int what) {
        if (!isFace(face) || !sheet.holds(face)) {
            return NOWHERE;
        }
        switch (what) {
            case 0:
                return sheet.x[face];
            case 1:
                return sheet.y[face];
            case 2:
                return sheet.turn[face];
            default:
                return NOWHERE;
        }
    }

    public int over(int k) {
        return k < NONE ? NONE : sheet.overlap(k);
    }

    public int box(int what) {
        if (what < 0 || what > 3 || sheet.count == 0) {
            return NOWHERE;
        }
        int[] row = (what & 1) == 0 ? sheet.x : sheet.y;
        return what < 2 ? sheet.least(row) : sheet.greatest(row);
    }

    public int part(int edge) {
        if (!isEdge(edge)) {
            return NONE;
        }
        if (!joints.isHinge(edge)) {
            return NOT_SO;
        }
        return sheet.placed & ~skin.reach(joints.root, joints.hinges & ~(1L << edge));
    }

    public int way(int face, int other, int k) {
        if (!isFace(face) || !isFace(other) || k < NONE) {
            return NONE;
        }
        int far = skin.walkBack(other, face, joints.hinges);
        if (far == NONE) {
            return CANNOT;
        }
        if (k == NONE) {
            return far;
        }
        return k > far ? NOT_SO : skin.faceOnWay(face, k);
    }

    public int free(int k) {
        if (k < NONE) {
            return NONE;
        }
        int many = 0;
        for (int edge = 0; edge < skin.edges; edge++) {
            if (isFree(edge)) {
                if (many == k) {
                    return edge;
                }
                many++;
            }
        }
        return k == NONE ? many : NOT_SO;
    }

    // ---- the RIM and its GLUINGS

    public int rim(int k, int what) {
        if (!traceBorder() || k < NONE || k >= border.sides) {
            return NONE;
        }
        if (k == NONE) {
            return what == 0 ? border.sides : NONE;
        }
        switch (what) {
            case 0:
                return border.slots[k] >> 2;
            case 1:
                return border.slots[k] & 3;
            case 2:
                return border.angles[k];
            case 3:
                return border.partners[k];
            default:
                return NONE;
        }
    }

    public int gluings() {
        if (!traceBorder()) {
            return NONE;
        }
        if (border.sides > MOST_GLUED) {
            return CANNOT;
        }
        gluer.findAll(border);
        return gluer.found;
    }

    public int glued(int g, int k) {
        if (!traceBorder() || g < 0 || k < 0 || k >= border.sides) {
            return NONE;
        }
        int many = gluings();
        if (many < 0) {
            return many;
        }
        return gluer.unpack(g) && k < MOST_GLUED ? gluer.with[k] : NONE;
    }

    public int lacks(int g, int what) {
        if (!traceBorder() || g < 0 || what < 0 || what > 2) {
            return NONE;
        }
        int many = gluings();
        if (many < 0) {
            return many;
        }
        return gluer.unpack(g) ? gluer.measure(border, what) : NONE;
    }

    public int itself() {
        int many = gluings();
        return many < 0 ? many : gluer.numberOf(border);
    }

    // ---- NETS that are alike

    public long outline() {
        silhouette.draw(sheet, netFaces());
        return silhouette.number();
    }

    public int alike(int shelf) {
        if (!isShelf(shelf) || !shelves[shelf].kept) {
            return NONE;
        }
        silhouette.draw(sheet, netFaces());
        Shelf other = shelves[shelf];
        if (silhouette.cells == 0 || other.cells == 0) {
            return NOT_SO;
        }
        return silhouette.isSame(other.row, other.cells) ? 1 : 0;
    }

    public int best(int what) {
        if (what < 0 || what > 2 || !allJoined()) {
            return NONE;
        }
        trader.look(joints);
        if (trader.edge == NONE) {
            return NOT_SO;
        }
        if (what == 0) {
            return trader.edge;
        }
        return what == 1 ? trader.hinge : trader.overlaps;
    }

    public int count(int what) {
        switch (what) {
            case 0:
                return skin.cubes;
            case 1:
                return skin.faces;
            case 2:
                return skin.edges;
            case 3:
                return skin.vertices;
            case 4:
                return joints.howMany();
            case 5:
                return joints.root;
            case 6:
                return sheet.count;
            case 7:
                return history.size;
            case 8:
                return tapeLength;
            case 9:
                return keptBits();
            case 10:
                return skin.edges - joints.howMany() - free(NONE);
            default:
                return NONE;
        }
    }

    private int keptBits() {
        int bits = 0;
        for (int i = 0; i < SHELVES; i++) {
            if (shelves[i].kept) {
                bits |= 1 << i;
            }
        }
        return bits;
    }

    // ---- what several calls ask

    // After each change of HINGES, ROOT or SOLID: what follows from them is found anew.
    private void settle() {
        sheet.lay(skin, joints);
        trader.known = false;
        border.known = false;
        gluer.known = false;
    }

    private boolean isFace(int face) {
        return face >= 0 && face < skin.faces;
    }

    private boolean isEdge(int edge) {
        return edge >= 0 && edge < skin.edges;
    }

    private boolean isVertex(int vertex) {
        return vertex >= 0 && vertex < skin.vertices;
    }

    private boolean isShelf(int shelf) {
        return shelf >= 0 && shelf < SHELVES;
    }

    private boolean isFree(int edge) {
        return !joints.isHinge(edge) && sheet.meet(skin.slotsOf[2 * edge], skin.slotsOf[2 * edge + 1]);
    }

    // HINGES never make a ring, so their number tells whether all FACES are joined.
    private boolean allJoined() {
        return skin.faces > 0 && joints.howMany() == skin.faces - 1;
    }

    private int netFaces() {
        return allJoined() && sheet.overlap(NONE) == 0 ? skin.faces : 0;
    }

    private boolean traceBorder() {
        if (!allJoined()) {
            return false;
        }
        border.trace(skin, joints);
        return true;
    }

    // SIDE s + 1 (of 4 the rest) of the same FACE.
    private static int nextSlot(int slot) {
        return (slot & ~3) | ((slot + 1) & 3);
    }

    /** Reads a TEXT of CUBES and tells its FAULT. */
    private static final class Reader {
        final int[] spots = new int[3 * MOST_CUBES];
        int cubes = 0;
        private int[] text = new int[0];
        private int length = 0;
        private int at = 0;

        int read(int[] bytes, int many) {
            text = bytes;
            length = Math.min(many, bytes.length);
            at = 0;
            cubes = 0;
            // Each turn reads one CUBE or ends with a FAULT.
            for (int i = 0; i <= MOST_CUBES; i++) {
                int fault = readCube();
                if (fault != NONE) {
                    return fault;
                }
                if (toNext() == length) {
                    return isSolid() ? NONE : 8 * length + 5;
                }
                if (text[at] != ';') {
                    return 8 * at + 1;
                }
                at++;
            }
            return 8 * length + 1;
        }

        private int readCube() {
            int begin = toNext();
            if (!passWord()) {
                return 8 * begin + 1;
            }
            if (cubes >= MOST_CUBES) {
                return 8 * begin + 3;
            }
            for (int axis = 0; axis < 3; axis++) {
                begin = toNext();
                int number = passNumber();
                if (number == NONE) {
                    return 8 * begin + 1;
                }
                if (number > MOST_NUMBER) {
                    return 8 * begin + 2;
                }
                spots[3 * cubes + axis] = number;
            }
            if (!canStand(cubes)) {
                return 8 * begin + 4;
            }
            cubes++;
            return NONE;
        }

        private int toNext() {
            while (at < length && text[at] == ' ') {
                at++;
            }
            return at;
        }

        private boolean passWord() {
            int begin = at;
            while (at < length && text[at] >= 'a' && text[at] <= 'z') {
                at++;
            }
            return at - begin == 4 && text[begin] == 'c' && text[begin + 1] == 'u'
                    && text[begin + 2] == 'b' && text[begin + 3] == 'e';
        }

        private int passNumber() {
            int number = NONE;
            while (at < length && text[at] >= '0' && text[at] <= '9') {
                // What is above the greatest stays above it, so it need not grow on.
                int higher = number == NONE ? 0 : Math.min(number, MOST_NUMBER + 1);
                number = 10 * higher + text[at] - '0';
                at++;
            }
            return number;
        }

        private boolean canStand(int cube) {
            boolean touches = cube == 0;
            for (int other = 0; other < cube; other++) {
                int far = distance(cube, other);
                if (far == 0) {
                    return false;
                }
                if (far == 1) {
                    touches = true;
                }
            }
            return touches;
        }

        private int apart(int cube, int other, int axis) {
            return Math.abs(spots[3 * cube + axis] - spots[3 * other + axis]);
        }

        private int distance(int cube, int other) {
            return apart(cube, other, 0) + apart(cube, other, 1) + apart(cube, other, 2);
        }

        private boolean isSolid() {
            for (int cube = 0; cube < cubes; cube++) {
                for (int other = 0; other < cube; other++) {
                    if (shareEdge(cube, other) && !haveThird(cube, other)) {
                        return false;
                    }
                }
            }
            return true;
        }

        private boolean shareEdge(int cube, int other) {
            return distance(cube, other) == 2 && apart(cube, other, 0) < 2
                    && apart(cube, other, 1) < 2 && apart(cube, other, 2) < 2;
        }

        private boolean haveThird(int cube, int other) {
            for (int third = 0; third < cubes; third++) {
                if (distance(cube, third) == 1 && distance(third, other) == 1) {
                    return true;
                }
            }
            return false;
        }
    }

    /** FACES, SIDES, EDGES and VERTICES of a SOLID; slot 4 f + s is SIDE (or corner) s of FACE f. */
    private static final class Skin {
        int cubes = 0;
        final int[] spots = new int[3 * MOST_CUBES];
        int faces = 0;
        final int[] faceAt = new int[6 * MOST_CUBES];
        final int[] cubeOf = new int[MOST_FACES];
        final int[] directionOf = new int[MOST_FACES];
        final int[] across = new int[MOST_SLOTS];
        final int[] edgeAt = new int[MOST_SLOTS];
        int edges = 0;
        final int[] slotsOf = new int[2 * MOST_EDGES];
        final int[] bendOf = new int[MOST_EDGES];
        int vertices = 0;
        final int[] vertexAt = new int[MOST_SLOTS];
        final int[] facesRound = new int[MOST_SLOTS];
        private final int[] queue = new int[MOST_FACES];
        private final int[] ahead = new int[MOST_FACES];
        private final int[] depth = new int[MOST_FACES];
        private final int[] sideNow = new int[MOST_FACES];

        void make(int[] from, int howMany) {
            cubes = Math.min(howMany, MOST_CUBES);
            System.arraycopy(from, 0, spots, 0, spots.length);
            findFaces();
            findEdges();
            findVertices();
        }

        private void findFaces() {
            faces = 0;
            for (int cube = 0; cube < cubes; cube++) {
                for (int direction = 0; direction < 6; direction++) {
                    faceAt[6 * cube + direction] = NONE;
                    if (cubeBeside(cube, direction, NONE) == NONE && faces < MOST_FACES) {
                        faceAt[6 * cube + direction] = faces;
                        cubeOf[faces] = cube;
                        directionOf[faces] = direction;
                        faces++;
                    }
                }
            }
        }

        // The CUBE one step from a CUBE in one direction and in another one (NONE: in none).
        private int cubeBeside(int cube, int one, int two) {
            for (int other = 0; other < cubes; other++) {
                if (isAway(cube, other, 0, step(one, 0) + step(two, 0))
                        && isAway(cube, other, 1, step(one, 1) + step(two, 1))
                        && isAway(cube, other, 2, step(one, 2) + step(two, 2))) {
                    return other;
                }
            }
            return NONE;
        }

        private boolean isAway(int cube, int other, int axis, int far) {
            return spots[3 * other + axis] == spots[3 * cube + axis] + far;
        }

        private static int step(int direction, int axis) {
            if (direction == NONE || direction >> 1 != axis) {
                return 0;
            }
            return (direction & 1) == 0 ? 1 : -1;
        }

        private void findEdges() {
            edges = 0;
            for (int slot = 0; slot < 4 * faces; slot++) {
                edgeAt[slot] = NONE;
            }
            for (int slot = 0; slot < 4 * faces; slot++) {
                int bend = joinSide(slot);
                if (edgeAt[slot] == NONE && edges < MOST_EDGES) {
                    edgeAt[slot] = edges;
                    edgeAt[across[slot]] = edges;
                    slotsOf[2 * edges] = slot;
                    slotsOf[2 * edges + 1] = across[slot];
                    bendOf[edges] = bend;
                    edges++;
                }
            }
        }

        // In a SOLID a CUBE over the SIDE has one below it, so one of three FACES is there.
        private int joinSide(int slot) {
            int cube = cubeOf[slot >> 2];
            int direction = directionOf[slot >> 2];
            int look = LOOKS[4 * direction + (slot & 3)];
            int above = cubeBeside(cube, direction, look);
            int beside = cubeBeside(cube, look, NONE);
            if (above != NONE) {
                across[slot] = slotOf(above, look ^ 1, direction ^ 1);
                return 2;
            }
            if (beside != NONE) {
                across[slot] = slotOf(beside, direction, look ^ 1);
                return 1;
            }
            across[slot] = slotOf(cube, look, direction);
            return 0;
        }

        private int slotOf(int cube, int direction, int look) {
            int face = Math.max(0, faceAt[6 * cube + direction]);
            for (int side = 0; side < 3; side++) {
                if (LOOKS[4 * direction + side] == look) {
                    return 4 * face + side;
                }
            }
            return 4 * face + 3;
        }

        private void findVertices() {
            vertices = 0;
            for (int slot = 0; slot < 4 * faces; slot++) {
                vertexAt[slot] = NONE;
            }
            for (int slot = 0; slot < 4 * faces; slot++) {
                if (vertexAt[slot] == NONE) {
                    facesRound[vertices] = goRound(slot);
                    vertices++;
                }
            }
        }

        // All FACES are turned one way, so corner i is corner t behind SIDE i + 1, if that is SIDE t there.
        private int goRound(int slot) {
            int corner = slot;
            int many = 0;
            while (many < 4 * faces && vertexAt[corner] == NONE) {
                vertexAt[corner] = vertices;
                corner = across[nextSlot(corner)];
                many++;
            }
            return many;
        }

        int faceOf(int edge, int which) {
            return slotsOf[2 * edge + which] >> 2;
        }

        // FACES joined to one, as bits; the queue has them in order, ahead tells from where.
        int reach(int from, long hinges) {
            if (from < 0 || from >= faces) {
                return 0;
            }
            int reached = 1 << from;
            int many = 1;
            queue[0] = from;
            ahead[from] = NONE;
            for (int i = 0; i < many && i < MOST_FACES; i++) {
                int face = queue[i];
                for (int slot = 4 * face; slot < 4 * face + 4; slot++) {
                    int other = across[slot] >> 2;
                    if ((hinges >>> edgeAt[slot] & 1L) != 0L && (reached >>> other & 1) == 0 && many < MOST_FACES) {
                        reached |= 1 << other;
                        ahead[other] = face;
                        queue[many] = other;
                        many++;
                    }
                }
            }
            return reached;
        }

        boolean isJoined(int face, int other, long hinges) {
            return (reach(face, hinges) >>> other & 1) != 0;
        }

        // How many HINGES lie between two FACES; ahead leads from the second one to the first one.
        int walkBack(int end, int from, long hinges) {
            if (!isJoined(end, from, hinges)) {
                return NONE;
            }
            int far = 0;
            int face = ahead[from];
            while (face != NONE && far < MOST_FACES) {
                far++;
                face = ahead[face];
            }
            return far;
        }

        int faceOnWay(int from, int k) {
            int face = from;
            for (int i = 0; i < k && face != NONE; i++) {
                face = ahead[face];
            }
            return face;
        }

        private void startTree(Joints joints) {
            joints.hinges = 0L;
            for (int face = 0; face < faces; face++) {
                depth[face] = NONE;
                sideNow[face] = 0;
            }
            depth[joints.root] = 0;
            queue[0] = joints.root;
        }

        // How many FACES the queue has then: one more, if that behind the SIDE was not come to.
        private int growBehind(int slot, int many, Joints joints) {
            int other = across[slot] >> 2;
            if (depth[other] != NONE || many >= MOST_FACES) {
                return many;
            }
            joints.setHinge(edgeAt[slot]);
            depth[other] = depth[slot >> 2] + 1;
            queue[many] = other;
            return many + 1;
        }

        int growByBreadth(Joints joints) {
            startTree(joints);
            int many = 1;
            for (int i = 0; i < many && i < MOST_FACES; i++) {
                for (int side = 0; side < 4; side++) {
                    many = growBehind(4 * queue[i] + side, many, joints);
                }
            }
            return greatestDepth();
        }

        // The queue is the way from the ROOT to the FACE looked at; each turn takes one SIDE or steps back.
        int growByDepth(Joints joints) {
            startTree(joints);
            int many = 1;
            for (int turn = 0; turn < 5 * MOST_FACES && many > 0; turn++) {
                int face = queue[many - 1];
                if (sideNow[face] > 3) {
                    many--;
                } else {
                    many = growBehind(4 * face + sideNow[face], many, joints);
                    sideNow[face]++;
                }
            }
            return greatestDepth();
        }

        private int greatestDepth() {
            int far = 0;
            for (int face = 0; face < faces; face++) {
                far = Math.max(far, depth[face]);
            }
            return far;
        }
    }

    /** Which EDGES are HINGES, what they weigh, and the ROOT. */
    private static final class Joints {
        long hinges = 0L;
        int root = 0;
        final int[] weights = new int[MOST_EDGES];

        void begin() {
            hinges = 0L;
            root = 0;
            for (int edge = 0; edge < MOST_EDGES; edge++) {
                weights[edge] = 1;
            }
        }

        void copy(Joints other) {
            hinges = other.hinges;
            root = other.root;
            System.arraycopy(other.weights, 0, weights, 0, MOST_EDGES);
        }

        boolean isHinge(int edge) {
            return (hinges >>> edge & 1L) != 0L;
        }

        void setHinge(int edge) {
            hinges |= 1L << edge;
        }

        void setCut(int edge) {
            hinges &= ~(1L << edge);
        }

        void swap(int edge, int hinge) {
            setCut(hinge);
            setHinge(edge);
        }

        int howMany() {
            return Long.bitCount(hinges);
        }
    }

    /** PLACED FACES: where they lie in the plane, in the order in which they came there. */
    private static final class Sheet {
        final int[] x = new int[MOST_FACES];
        final int[] y = new int[MOST_FACES];
        final int[] turn = new int[MOST_FACES];
        final int[] order = new int[MOST_FACES];
        // The SIDE (as a slot) behind which a FACE came, NONE for the ROOT.
        final int[] behind = new int[MOST_FACES];
        int placed = 0;
        int count = 0;

        void lay(Skin skin, Joints joints) {
            putRoot(joints.root, skin.faces);
            for (int i = 0; i < count && i < MOST_FACES; i++) {
                int face = order[i];
                for (int slot = 4 * face; slot < 4 * face + 4; slot++) {
                    if (joints.isHinge(skin.edgeAt[slot]) && !holds(skin.across[slot] >> 2)) {
                        putBehind(slot, skin.across[slot]);
                    }
                }
            }
        }

        void putRoot(int root, int faces) {
            placed = 0;
            count = 0;
            if (root >= 0 && root < faces) {
                add(root, NONE);
                x[root] = 0;
                y[root] = 0;
                turn[root] = 0;
            }
        }

        void putBehind(int slot, int beyond) {
            int face = beyond >> 2;
            x[face] = xBehind(slot);
            y[face] = yBehind(slot);
            turn[face] = turnBehind(slot, beyond);
            add(face, slot);
        }

        private void add(int face, int slot) {
            behind[face] = slot;
            placed |= 1 << face;
            if (count < MOST_FACES) {
                order[count] = face;
                count++;
            }
        }

        void takeLast() {
            if (count > 0) {
                count--;
                placed &= ~(1 << order[count]);
            }
        }

        private int look(int slot) {
            return ((slot & 3) + turn[slot >> 2]) & 3;
        }

        int xBehind(int slot) {
            return x[slot >> 2] + STEP_X[look(slot)];
        }

        int yBehind(int slot) {
            return y[slot >> 2] + STEP_Y[look(slot)];
        }

        // The SIDE beyond looks back: just half a turn from where this one looks to.
        int turnBehind(int slot, int beyond) {
            return (look(slot) + 2 - (beyond & 3)) & 3;
        }

        boolean holds(int face) {
            return (placed >>> face & 1) != 0;
        }

        boolean isTaken(int atX, int atY) {
            for (int i = 0; i < count; i++) {
                if (x[order[i]] == atX && y[order[i]] == atY) {
                    return true;
                }
            }
            return false;
        }

        // Whether two SIDES of PLACED FACES meet in the plane.
        boolean meet(int slot, int beyond) {
            int face = beyond >> 2;
            return holds(slot >> 2) && holds(face) && x[face] == xBehind(slot) && y[face] == yBehind(slot)
                    && turn[face] == turnBehind(slot, beyond);
        }

        int overlap(int k) {
            int many = 0;
            for (int face = 0; face < MOST_FACES; face++) {
                for (int other = face + 1; other < MOST_FACES && holds(face); other++) {
                    if (holds(other) && x[face] == x[other] && y[face] == y[other]) {
                        if (many == k) {
                            return 100 * face + other;
                        }
                        many++;
                    }
                }
            }
            return k == NONE ? many : NOT_SO;
        }

        int least(int[] row) {
            int least = 0;
            for (int i = 0; i < count; i++) {
                least = Math.min(least, row[order[i]]);
            }
            return least;
        }

        int greatest(int[] row) {
            int greatest = 0;
            for (int i = 0; i < count; i++) {
                greatest = Math.max(greatest, row[order[i]]);
            }
            return greatest;
        }
    }

    /** Of all trades the one with the fewest OVERLAPS. */
    private static final class Trader {
        boolean known = false;
        int edge = NONE;
        int hinge = NONE;
        int overlaps = 0;
        // Places of the FACES laid down: by y, bit x, both less than 32 from the ROOT.
        private final long[] taken = new long[64];
        private final Skin skin;
        private final Sheet sheet;

        Trader(Skin skin, Sheet sheet) {
            this.skin = skin;
            this.sheet = sheet;
        }

        void look(Joints joints) {
            if (known) {
                return;
            }
            edge = NONE;
            hinge = NONE;
            overlaps = 0;
            for (int cut = 0; cut < skin.edges; cut++) {
                if (joints.isHinge(cut)) {
                    lookAt(cut, joints);
                }
            }
            known = true;
        }

        // What is cut off moves as one, so OVERLAPS within both parts are counted once.
        private void lookAt(int cut, Joints joints) {
            int off = cutOff(cut);
            int rest = sheet.placed & ~off;
            int within = layDown(off) + layDown(rest);
            for (int join = 0; join < skin.edges; join++) {
                boolean firstOff = (off >>> skin.faceOf(join, 0) & 1) != 0;
                boolean secondOff = (off >>> skin.faceOf(join, 1) & 1) != 0;
                if (!joints.isHinge(join) && firstOff != secondOff) {
                    int stay = skin.slotsOf[2 * join + (firstOff ? 1 : 0)];
                    int move = skin.slotsOf[2 * join + (firstOff ? 0 : 1)];
                    compare(join, cut, within + between(off, stay, move));
                }
            }
        }

        private void compare(int join, int cut, int many) {
            boolean better = edge == NONE || many < overlaps || many == overlaps && join < edge;
            if (better) {
                edge = join;
                hinge = cut;
                overlaps = many;
            }
        }

        // FACES behind a HINGE, seen from the ROOT; those ahead come first in the order.
        private int cutOff(int cut) {
            int off = 0;
            for (int i = 0; i < sheet.count; i++) {
                int face = sheet.order[i];
                int slot = sheet.behind[face];
                if (slot != NONE && (skin.edgeAt[slot] == cut || (off >>> (slot >> 2) & 1) != 0)) {
                    off |= 1 << face;
                }
            }
            return off;
        }

        // Lays down these FACES alone: how many twos of them lie at one place.
        private int layDown(int faces) {
            for (int i = 0; i < 64; i++) {
                taken[i] = 0L;
            }
            int twos = 0;
            int down = 0;
            for (int face = 0; face < MOST_FACES; face++) {
                if ((faces >>> face & 1) != 0) {
                    int x = sheet.x[face];
                    int y = sheet.y[face];
                    twos += howManyAt(down, x, y);
                    taken[(y + 32) & 63] |= 1L << ((x + 32) & 63);
                    down |= 1 << face;
                }
            }
            return twos;
        }

        private int howManyAt(int down, int x, int y) {
            if ((taken[(y + 32) & 63] >>> ((x + 32) & 63) & 1L) == 0L) {
                return 0;
            }
            int many = 0;
            for (int face = 0; face < MOST_FACES; face++) {
                if ((down >>> face & 1) != 0 && sheet.x[face] == x && sheet.y[face] == y) {
                    many++;
                }
            }
            return many;
        }

        // OVERLAPS of FACES that stay with those that move on, behind the SIDE that stays.
        private int between(int off, int stay, int move) {
            int pivot = move >> 2;
            int turned = (sheet.turnBehind(stay, move) - sheet.turn[pivot]) & 3;
            int many = 0;
            for (int face = 0; face < MOST_FACES; face++) {
                if ((off >>> face & 1) != 0) {
                    int dx = sheet.x[face] - sheet.x[pivot];
                    int dy = sheet.y[face] - sheet.y[pivot];
                    int newX = sheet.xBehind(stay) + dx * STEP_X[turned] - dy * STEP_Y[turned];
                    int newY = sheet.yBehind(stay) + dx * STEP_Y[turned] + dy * STEP_X[turned];
                    many += howManyAt(sheet.placed & ~off, newX, newY);
                }
            }
            return many;
        }
    }

    /** The FIRST NET: EDGES are told HINGE or CUT one by one, the last one first again. */
    private static final class Seeker {
        long hinges = 0L;
        private final Sheet sheet = new Sheet();
        private final int[] told = new int[MOST_EDGES];
        private int many = 0;
        private long tellings = 0L;

        int find(Skin skin, int root) {
            hinges = 0L;
            tellings = 0L;
            many = 0;
            sheet.putRoot(root, skin.faces);
            for (int steps = 1; steps <= MOST_STEPS; steps++) {
                if (sheet.count == skin.faces) {
                    return steps;
                }
                int edge = leastEdge(skin);
                if (edge != NONE) {
                    tell(skin, edge);
                } else if (!turnBack()) {
                    return NOT_SO;
                }
            }
            return CANNOT;
        }

        private int leastEdge(Skin skin) {
            for (int edge = 0; edge < skin.edges; edge++) {
                if ((tellings >>> edge & 1L) == 0L
                        && sheet.holds(skin.faceOf(edge, 0)) != sheet.holds(skin.faceOf(edge, 1))) {
                    return edge;
                }
            }
            return NONE;
        }

        private void tell(Skin skin, int edge) {
            boolean first = sheet.holds(skin.faceOf(edge, 0));
            int slot = skin.slotsOf[2 * edge + (first ? 0 : 1)];
            tellings |= 1L << edge;
            if (many < MOST_EDGES) {
                told[many] = edge;
                many++;
            }
            if (!sheet.isTaken(sheet.xBehind(slot), sheet.yBehind(slot))) {
                hinges |= 1L << edge;
                sheet.putBehind(slot, skin.across[slot]);
            }
        }

        // The last HINGE told is told CUT instead; whether there was one.
        private boolean turnBack() {
            while (many > 0) {
                int edge = told[many - 1];
                if ((hinges >>> edge & 1L) != 0L) {
                    hinges &= ~(1L << edge);
                    sheet.takeLast();
                    return true;
                }
                tellings &= ~(1L << edge);
                many--;
            }
            return false;
        }
    }

    /** The RIM of FACES that are all joined. */
    private static final class Border {
        boolean known = false;
        int sides = 0;
        final int[] slots = new int[MOST_RIM];
        final int[] angles = new int[MOST_RIM];
        final int[] partners = new int[MOST_RIM];
        private final int[] numbers = new int[MOST_SLOTS];

        void trace(Skin skin, Joints joints) {
            if (known) {
                return;
            }
            sides = Math.min(2 * skin.faces + 2, MOST_RIM);
            int slot = 0;
            while (slot < MOST_SLOTS - 1 && joints.isHinge(skin.edgeAt[slot])) {
                slot++;
            }
            for (int k = 0; k < sides; k++) {
                slots[k] = slot;
                numbers[slot] = k;
                int angle = 1;
                slot = nextSlot(slot);
                while (angle < MOST_SLOTS && joints.isHinge(skin.edgeAt[slot])) {
                    slot = nextSlot(skin.across[slot]);
                    angle++;
                }
                angles[k + 1 < sides ? k + 1 : 0] = angle;
            }
            for (int k = 0; k < sides; k++) {
                partners[k] = numbers[skin.across[slots[k]]];
            }
            known = true;
        }
    }

    /** All GLUINGS of a RIM; each is kept as bits: which SIDES are glued with a later one. */
    private static final class Gluer {
        boolean known = false;
        int found = 0;
        final int[] with = new int[MOST_GLUED];
        private int sides = 0;
        private final int[] words = new int[MOST_GLUINGS];
        // By depth: the two SIDES glued there.
        private final int[] first = new int[MOST_GLUED / 2 + 1];
        private final int[] second = new int[MOST_GLUED / 2 + 1];
        // By depth: which point stands for a point, and the ANGLE of those that it stands for.
        private final int[][] stand = new int[MOST_GLUED / 2 + 1][MOST_GLUED];
        private final int[][] angle = new int[MOST_GLUED / 2 + 1][MOST_GLUED];

        void findAll(Border border) {
            if (known) {
                return;
            }
            begin(border);
            found = 0;
            int depth = 0;
            open(0);
            // Each turn glues two SIDES or takes up the two glued last.
            for (int turn = 0; turn < MOST_TURNS && depth >= 0; turn++) {
                if (2 * depth < sides && glueNext(depth)) {
                    depth++;
                    open(depth);
                    continue;
                }
                if (2 * depth == sides) {
                    store();
                }
                depth--;
                takeUp(depth);
            }
            known = true;
        }

        private void begin(Border border) {
            sides = Math.min(border.sides, MOST_GLUED);
            for (int k = 0; k < sides; k++) {
                with[k] = NONE;
                stand[0][k] = k;
                angle[0][k] = border.angles[k];
            }
        }

        // The first SIDE that is open is the next to be glued, with none yet.
        private void open(int depth) {
            int side = 0;
            while (side < sides - 1 && with[side] != NONE) {
                side++;
            }
            first[depth] = side;
            second[depth] = side - 1;
        }

        private void takeUp(int depth) {
            if (depth >= 0) {
                with[first[depth]] = NONE;
                with[second[depth]] = NONE;
            }
        }

        // Only open SIDES may lie between the two, and evenly many of them.
        private boolean glueNext(int depth) {
            int one = first[depth];
            for (int two = second[depth] + 2; two < sides && with[two - 1] == NONE; two += 2) {
                System.arraycopy(stand[depth], 0, stand[depth + 1], 0, sides);
                System.arraycopy(angle[depth], 0, angle[depth + 1], 0, sides);
                if (with[two] == NONE && glueTwo(depth + 1, one, two)) {
                    with[one] = two;
                    with[two] = one;
                    second[depth] = two;
                    return true;
                }
            }
            return false;
        }

        private void store() {
            if (found < MOST_GLUINGS) {
                words[found] = wordOf(with);
                found++;
            }
        }

        private int wordOf(int[] row) {
            int word = 0;
            for (int k = 0; k < sides; k++) {
                if (row[k] > k) {
                    word |= 1 << k;
                }
            }
            return word;
        }

        private boolean glueTwo(int depth, int side, int other) {
            int behind = other + 1 < sides ? other + 1 : 0;
            return makeOne(depth, side, behind) && makeOne(depth, side + 1, other);
        }

        private boolean makeOne(int depth, int point, int other) {
            int one = stand[depth][point];
            int two = stand[depth][other];
            if (one == two) {
                return angle[depth][one] <= WHOLE_TURN;
            }
            angle[depth][one] += angle[depth][two];
            for (int k = 0; k < sides; k++) {
                if (stand[depth][k] == two) {
                    stand[depth][k] = one;
                }
            }
            return angle[depth][one] <= WHOLE_TURN;
        }

        boolean unpack(int g) {
            if (g < 0 || g >= found) {
                return false;
            }
            for (int k = 0; k < sides; k++) {
                with[k] = NONE;
            }
            for (int k = 0; k < sides; k++) {
                if ((words[g] >>> k & 1) == 0) {
                    glueWithLastOpen(words[g], k);
                }
            }
            return true;
        }

        private void glueWithLastOpen(int word, int k) {
            for (int other = k - 1; other >= 0; other--) {
                if (with[other] == NONE && (word >>> other & 1) != 0) {
                    with[k] = other;
                    with[other] = k;
                    return;
                }
            }
        }

        // Of the GLUING unpacked: 0 its points, 1 those of ANGLES below a turn, 2 the least ANGLE.
        int measure(Border border, int what) {
            for (int k = 0; k < sides; k++) {
                stand[0][k] = k;
                angle[0][k] = border.angles[k];
            }
            for (int k = 0; k < sides; k++) {
                if (with[k] > k) {
                    glueTwo(0, k, with[k]);
                }
            }
            int points = 0;
            int lacking = 0;
            int least = WHOLE_TURN;
            for (int k = 0; k < sides; k++) {
                if (stand[0][k] == k) {
                    points++;
                    lacking += angle[0][k] < WHOLE_TURN ? 1 : 0;
                    least = Math.min(least, angle[0][k]);
                }
            }
            if (what == 0) {
                return points;
            }
            return what == 1 ? lacking : least;
        }

        // The GLUING of all SIDES with their PARTNERS.
        int numberOf(Border border) {
            int word = wordOf(border.partners);
            for (int g = 0; g < found; g++) {
                if (words[g] == word && unpack(g) && isGluedLike(border.partners)) {
                    return g;
                }
            }
            return NOT_SO;
        }

        private boolean isGluedLike(int[] partners) {
            for (int k = 0; k < sides; k++) {
                if (with[k] != partners[k]) {
                    return false;
                }
            }
            return true;
        }
    }

    /** The OUTLINE of a NET: its cells as 64 y + x; none if there is no NET. */
    private static final class Silhouette {
        int cells = 0;
        final int[] row = new int[MOST_FACES];
        private final int[] trial = new int[MOST_FACES];
        private final int[] trialX = new int[MOST_FACES];
        private final int[] trialY = new int[MOST_FACES];

        void draw(Sheet sheet, int faces) {
            cells = Math.min(faces, MOST_FACES);
            for (int kind = 0; kind < 8 && cells > 0; kind++) {
                turn(sheet, kind);
                sort();
                if (kind == 0 || isTrialFirst()) {
                    System.arraycopy(trial, 0, row, 0, cells);
                }
            }
        }

        private void turn(Sheet sheet, int kind) {
            int leastX = MOST_FACES;
            int leastY = MOST_FACES;
            for (int face = 0; face < cells; face++) {
                int x = (kind & 4) == 0 ? sheet.x[face] : -sheet.x[face];
                int y = sheet.y[face];
                trialX[face] = x * STEP_X[kind & 3] - y * STEP_Y[kind & 3];
                trialY[face] = x * STEP_Y[kind & 3] + y * STEP_X[kind & 3];
                leastX = Math.min(leastX, trialX[face]);
                leastY = Math.min(leastY, trialY[face]);
            }
            for (int face = 0; face < cells; face++) {
                trial[face] = 64 * (trialY[face] - leastY) + trialX[face] - leastX;
            }
        }

        private void sort() {
            for (int i = 1; i < cells; i++) {
                int cell = trial[i];
                int k = i;
                while (k > 0 && trial[k - 1] > cell) {
                    trial[k] = trial[k - 1];
                    k--;
                }
                trial[k] = cell;
            }
        }

        private boolean isTrialFirst() {
            for (int i = 0; i < cells; i++) {
                if (trial[i] != row[i]) {
                    return trial[i] < row[i];
                }
            }
            return false;
        }

        long number() {
            if (cells == 0) {
                return 0L;
            }
            long number = 17L;
            for (int i = 0; i < cells; i++) {
                number = 31L * number + row[i];
            }
            return number;
        }

        boolean isSame(int[] other, int otherCells) {
            if (cells != otherCells) {
                return false;
            }
            for (int i = 0; i < cells; i++) {
                if (row[i] != other[i]) {
                    return false;
                }
            }
            return true;
        }
    }

    /** The last ACTS: how all stood ahead of each. */
    private static final class History {
        int size = 0;
        private int next = 0;
        private final Joints[] ring = new Joints[MOST_ACTS];

        History() {
            for (int i = 0; i < MOST_ACTS; i++) {
                ring[i] = new Joints();
            }
        }

        void forget() {
            size = 0;
        }

        void remember(Joints joints) {
            ring[next].copy(joints);
            next = next + 1 < MOST_ACTS ? next + 1 : 0;
            size = Math.min(size + 1, MOST_ACTS);
        }

        boolean bringBack(Joints joints) {
            if (size == 0) {
                return false;
            }
            next = next > 0 ? next - 1 : MOST_ACTS - 1;
            size--;
            joints.copy(ring[next]);
            return true;
        }
    }

    /** What is KEPT on a SHELF, with the OUTLINE that its NET has. */
    private static final class Shelf {
        boolean kept = false;
        int cubes = 0;
        final int[] spots = new int[3 * MOST_CUBES];
        final Joints joints = new Joints();
        int cells = 0;
        final int[] row = new int[MOST_FACES];

        void store(Skin skin, Joints from, Silhouette silhouette) {
            kept = true;
            cubes = skin.cubes;
            System.arraycopy(skin.spots, 0, spots, 0, spots.length);
            joints.copy(from);
            cells = silhouette.cells;
            System.arraycopy(silhouette.row, 0, row, 0, row.length);
        }
    }
}
