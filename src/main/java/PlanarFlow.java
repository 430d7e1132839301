import java.util.Arrays;
import java.util.NoSuchElementException;

/** Flows in a planar grid network, by distances between the faces of its dual. */
public final class PlanarFlow {
    public static final int NONE = -1;

    private static final int OUTER = 72;
    private static final int NODE_ROOM = 36;
    private static final int EDGE_ROOM = 108;
    private static final int FACE_ROOM = 73;
    private static final int RIM_ROOM = 20;
    private static final int TAPE_ROOM = 600;
    private static final int FED = 20;
    private static final int IMAGES = 2;
    private static final int DIRECTIONS = 8;
    private static final int LEAST_SIDE = 2;
    private static final int MOST_SIDE = 6;
    private static final int MOST = 99;
    private static final int MOST_EACH = 999;
    private static final int OTHERS = -101;
    private static final int NO_CIRCULATION = -2;
    private static final int NO_DISTANCE = -100000;
    /** More than any sum of what edges bear, and more than any loop needs. */
    private static final int PLENTY = 1000000;
    /** Of a face to which no way is known yet. */
    private static final int UNKNOWN = Integer.MAX_VALUE;

    private final Net net;
    private final Told draft;
    private final Told[] images;
    private final boolean[] made;
    private final Dual dual;
    private final Routes routes;
    private final Halves halves;
    private final Stream stream;
    private final Stream trial;
    private final Parting parting;
    private final Tape tape;

    public PlanarFlow() {
        net = new Net();
        draft = new Told();
        images = new Told[IMAGES];
        made = new boolean[IMAGES];
        for (int i = 0; i < IMAGES; i++) {
            images[i] = new Told();
        }
        dual = new Dual();
        routes = new Routes();
        halves = new Halves();
        stream = new Stream();
        trial = new Stream();
        parting = new Parting();
        tape = new Tape();
    }

    public int feed(int a, int b, int c, int d, int e) {
        if (tape.held + FED > TAPE_ROOM) {
            return NONE;
        }
        tape.put(a);
        tape.put(b);
        tape.put(c);
        tape.put(d);
        tape.put(e);
        return tape.held;
    }

    public int text(int n) {
        if (n < 0 || n > tape.held) {
            return NONE;
        }
        int lines = tape.read(n, draft);
        if (lines >= 0) {
            net.become(draft);
            stream.forget();
        }
        return lines;
    }

    public int grid(int w, int h) {
        if (!isSide(w) || !isSide(h)) {
            return NONE;
        }
        draft.reset(w, h);
        net.become(draft);
        stream.forget();
        return net.edgeCount;
    }

    public int slant(int node, int how) {
        if (!net.hasCell(node) || how < 0 || how > 2) {
            return NONE;
        }
        int was = net.told.lean(node, how);
        net.rebuild();
        stream.forget();
        return was;
    }

    public boolean bears(int edge, int forth, int back) {
        if (!net.hasEdge(edge) || !isBearable(forth) || !isBearable(back) || forth + back < 0) {
            return false;
        }
        net.told.load(edge, forth, back);
        stream.forget();
        return true;
    }

    public int edge(int edge, int what) {
        if (!net.hasEdge(edge)) {
            return OTHERS;
        }
        switch (what) {
            case 0: return net.tail[edge];
            case 1: return net.head[edge];
            case 2: return net.forth[edge];
            case 3: return net.hither[edge];
            case 4: return net.leftFace[edge];
            case 5: return net.rightFace[edge];
            default: return OTHERS;
        }
    }

    public int around(int face) throws NoSuchElementException {
        if (!net.hasFace(face)) {
            throw new NoSuchElementException("no such face");
        }
        return net.sides[face];
    }

    public int distance(int from, int to) throws NoSuchElementException {
        if (!net.hasFace(from) || !net.hasFace(to)) {
            throw new NoSuchElementException("no such faces");
        }
        if (!dual.solve(net)) {
            return NO_DISTANCE;
        }
        routes.aim(net, to);
        return routes.costFrom(from);
    }

    public int route(int from, int to, int i) {
        if (!net.hasFace(from) || !net.hasFace(to) || i < NONE || !dual.solve(net)) {
            return NONE;
        }
        routes.aim(net, to);
        return i == NONE ? routes.hopsFrom(from) : routes.crossing(net, from, to, i);
    }

    public int circulates() {
        return dual.solve(net) ? 1 : 0;
    }

    public int potential(int face) throws NoSuchElementException {
        if (!net.hasFace(face)) {
            throw new NoSuchElementException("no such face");
        }
        return dual.solve(net) ? dual.best[face] : NO_DISTANCE;
    }

    public int ring(int i) {
        if (dual.solve(net)) {
            return OTHERS;
        }
        dual.traceRing(net);
        if (i == -2) {
            return dual.ringCost;
        }
        if (i == NONE) {
            return dual.ringCount;
        }
        return i >= 0 && i < dual.ringCount ? dual.ringFaces[i] : OTHERS;
    }

    public int flow(int s, int t) {
        if (!isPair(s, t)) {
            return NONE;
        }
        if (!dual.solve(net)) {
            return NO_CIRCULATION;
        }
        return stream.runBetween(net, dual, s, t);
    }

    public int on(int edge) throws NoSuchElementException {
        if (!net.hasEdge(edge) || stream.kind == Stream.NOTHING) {
            throw new NoSuchElementException("no such edge, or no flow");
        }
        return stream.carried[edge];
    }

    public int left(int edge, int way) throws NoSuchElementException {
        if (!net.hasEdge(edge) || stream.kind == Stream.NOTHING || way < 0 || way > 1) {
            throw new NoSuchElementException("no such edge or way, or no flow");
        }
        return stream.spare(net, edge, way == 0);
    }

    public int ways(int what) {
        if (stream.kind == Stream.NOTHING) {
            return NONE;
        }
        switch (what) {
            case 0: return stream.wayCount;
            case 1: return stream.longest;
            case 2: return stream.least;
            case 3: return stream.source;
            case 4: return stream.sink;
            default: return NONE;
        }
    }

    public int excess(int node) throws NoSuchElementException {
        if (!net.hasNode(node) || stream.kind == Stream.NOTHING) {
            throw new NoSuchElementException("no such node, or no flow");
        }
        return stream.gain(net, node);
    }

    public int cut(int side, int i) {
        if (!hasCut(side)) {
            return OTHERS;
        }
        parting.divide(net, stream, side);
        if (i == -2) {
            return parting.cost(net);
        }
        if (i == NONE) {
            return parting.size(net);
        }
        int edge = parting.member(net, i);
        return edge == NONE ? OTHERS : edge;
    }

    public int rings(int side) {
        if (!hasCut(side)) {
            return NONE;
        }
        parting.divide(net, stream, side);
        return parting.pieces(net);
    }

    public int shared(int s, int t) {
        if (!isPair(s, t) || net.rimIndex(s) == NONE || net.rimIndex(t) == NONE) {
            return NONE;
        }
        return dual.solve(net) ? halves.least(net, s, t) : NO_CIRCULATION;
    }

    public int gather(int face, int t, int each) {
        if (!net.hasFace(face) || !net.hasNode(t) || each < 1 || each > MOST_EACH) {
            return NONE;
        }
        if (!dual.solve(net)) {
            return NO_CIRCULATION;
        }
        return stream.runFromFace(net, dual, face, t, each);
    }

    public int supply(int node, int amount) {
        if (!net.hasNode(node) || !isBearable(amount)) {
            return OTHERS;
        }
        return net.told.stock(node, amount);
    }

    public int meet() {
        if (!dual.solve(net)) {
            return NO_CIRCULATION;
        }
        return stream.runSupplies(net, dual);
    }

    public int gave(int node) {
        boolean many = stream.kind == Stream.GATHERED || stream.kind == Stream.MET;
        return many && net.hasNode(node) ? stream.given[node] : OTHERS;
    }

    public int were(int edge, int what, int s, int t) {
        if (!net.hasEdge(edge) || what < 0 || what > 2 || !isPair(s, t)) {
            return NONE;
        }
        if (what == 0) {
            return valueWith(edge, 0, 0, s, t);
        }
        int forth = net.forth[edge] + (what == 1 ? 1 : 0);
        int hither = net.hither[edge] + (what == 2 ? 1 : 0);
        return valueWith(edge, forth, hither, s, t);
    }

    public int counts(int what, int s, int t) {
        if (what < 0 || what > 1 || !isPair(s, t)) {
            return NONE;
        }
        if (!dual.solve(net)) {
            return NO_CIRCULATION;
        }
        int now = trial.runBetween(net, dual, s, t);
        int found = 0;
        for (int k = 0; k < net.edgeCount; k++) {
            int edge = net.edgeList[k];
            // no circulation is told by a number below every VALUE, so it counts as less
            if (what == 0 && valueWith(edge, 0, 0, s, t) < now) {
                found++;
            }
            if (what == 1 && valueWith(edge, net.forth[edge] + 1, net.hither[edge] + 1, s, t) > now) {
                found++;
            }
        }
        return found;
    }

    public int worst(int s, int what) {
        if (!net.hasNode(s) || what < 0 || what > 1) {
            return NONE;
        }
        if (!dual.solve(net)) {
            return NO_CIRCULATION;
        }
        int node = NONE;
        int least = PLENTY;
        for (int t = 0; t < net.nodeCount; t++) {
            if (t != s) {
                int value = trial.runBetween(net, dual, s, t);
                if (value < least) {
                    least = value;
                    node = t;
                }
            }
        }
        return what == 0 ? node : least;
    }

    public boolean image(int i) {
        if (i < 0 || i >= IMAGES) {
            return false;
        }
        images[i].take(net.told);
        made[i] = true;
        return true;
    }

    public boolean back(int i) {
        if (i < 0 || i >= IMAGES || !made[i]) {
            return false;
        }
        net.become(images[i]);
        stream.forget();
        return true;
    }

    public int count(int what) {
        switch (what) {
            case 0: return net.told.w;
            case 1: return net.told.h;
            case 2: return net.edgeCount;
            case 3: return net.faceCount;
            case 4: return net.slantCount;
            case 5: return net.allBorne();
            case 6: return stream.kind == Stream.NOTHING ? 0 : 1;
            case 7: return tape.held;
            case 8: return net.allSupplied(1);
            case 9: return net.allSupplied(-1);
            default: return NONE;
        }
    }

    private boolean isPair(int s, int t) {
        return net.hasNode(s) && net.hasNode(t) && s != t;
    }

    private boolean hasCut(int side) {
        return stream.kind == Stream.BETWEEN && side >= 0 && side <= 1;
    }

    private static boolean isSide(int length) {
        return length >= LEAST_SIDE && length <= MOST_SIDE;
    }

    private static boolean isBearable(int amount) {
        return amount >= -MOST && amount <= MOST;
    }

    /** VALUE were the edge to bear so; what it bears is put back behind the trial. */
    private int valueWith(int edge, int forth, int hither, int s, int t) {
        int wasForth = net.forth[edge];
        int wasHither = net.hither[edge];
        net.told.load(edge, forth, hither);
        int value = dual.solve(net) ? trial.runBetween(net, dual, s, t) : NO_CIRCULATION;
        net.told.load(edge, wasForth, wasHither);
        return value;
    }

    /** What is told of a grid, and nothing that follows from it: so an image is small. */
    private static final class Told {
        final int[] slants = new int[NODE_ROOM];
        final int[] forth = new int[EDGE_ROOM];
        final int[] hither = new int[EDGE_ROOM];
        final int[] supplies = new int[NODE_ROOM];
        int w = 3;
        int h = 3;

        void reset(int newW, int newH) {
            w = newW;
            h = newH;
            Arrays.fill(slants, 0);
            Arrays.fill(forth, 0);
            Arrays.fill(hither, 0);
            Arrays.fill(supplies, 0);
        }

        void take(Told other) {
            w = other.w;
            h = other.h;
            System.arraycopy(other.slants, 0, slants, 0, NODE_ROOM);
            System.arraycopy(other.forth, 0, forth, 0, EDGE_ROOM);
            System.arraycopy(other.hither, 0, hither, 0, EDGE_ROOM);
            System.arraycopy(other.supplies, 0, supplies, 0, NODE_ROOM);
        }

        void load(int edge, int newForth, int newHither) {
            forth[edge] = newForth;
            hither[edge] = newHither;
        }

        int lean(int node, int how) {
            int was = slants[node];
            slants[node] = how;
            load(3 * node + 2, 0, 0);
            return was;
        }

        int stock(int node, int amount) {
            int was = supplies[node];
            supplies[node] = amount;
            return was;
        }

        /** Whether an edge of this kind (0 right, 1 down, 2 aslant) has room at x, y. */
        boolean fits(int kind, int x, int y) {
            return x >= 0 && x <= lastX(kind) && y >= 0 && y <= lastY(kind);
        }

        int lastX(int kind) {
            return kind == 1 ? w - 1 : w - 2;
        }

        int lastY(int kind) {
            return kind == 0 ? h - 1 : h - 2;
        }
    }

    /** The grid as it is, with tables of where edges and faces lie, made anew when its shape changes. */
    private static final class Net {
        final Told told = new Told();
        final int[] forth = told.forth;
        final int[] hither = told.hither;
        final int[] edgeList = new int[EDGE_ROOM];
        final int[] tail = new int[EDGE_ROOM];
        final int[] head = new int[EDGE_ROOM];
        final int[] leftFace = new int[EDGE_ROOM];
        final int[] rightFace = new int[EDGE_ROOM];
        final int[] sides = new int[FACE_ROOM];
        final int[] darts = new int[NODE_ROOM * DIRECTIONS];
        final int[] rimNodes = new int[RIM_ROOM];
        final int[] rimEdges = new int[RIM_ROOM];
        int nodeCount;
        int edgeCount;
        int faceCount;
        int slantCount;
        int rimCount;

        Net() {
            rebuild();
        }

        void become(Told other) {
            told.take(other);
            rebuild();
        }

        void rebuild() {
            Arrays.fill(tail, NONE);
            Arrays.fill(sides, 0);
            Arrays.fill(darts, NONE);
            nodeCount = told.w * told.h;
            edgeCount = 0;
            slantCount = 0;
            for (int y = 0; y < told.h; y++) {
                for (int x = 0; x < told.w; x++) {
                    placeEdges(x, y);
                }
            }
            faceCount = (told.w - 1) * (told.h - 1) + slantCount + 1;
            walkRim();
        }

        /** Directions go clockwise: 0 up, 2 to the right, 4 down, 6 to the left. */
        private void placeEdges(int x, int y) {
            int w = told.w;
            int node = y * w + x;
            if (told.fits(0, x, y)) {
                int above = y > 0 ? lowerFace(node - w) : OUTER;
                int below = y < told.h - 1 ? 2 * node : OUTER;
                place(3 * node, node, node + 1, 2, above, below);
            }
            if (told.fits(1, x, y)) {
                int east = x < w - 1 ? westFace(node) : OUTER;
                int west = x > 0 ? eastFace(node - 1) : OUTER;
                place(3 * node + 1, node, node + w, 4, east, west);
            }
            if (!told.fits(2, x, y) || told.slants[node] == 0) {
                return;
            }
            slantCount++;
            if (told.slants[node] == 1) {
                place(3 * node + 2, node, node + w + 1, 3, 2 * node, 2 * node + 1);
            } else {
                place(3 * node + 2, node + 1, node + w, 5, 2 * node + 1, 2 * node);
            }
        }

        private int lowerFace(int cell) {
            return told.slants[cell] == 0 ? 2 * cell : 2 * cell + 1;
        }

        private int westFace(int cell) {
            return told.slants[cell] == 1 ? 2 * cell + 1 : 2 * cell;
        }

        private int eastFace(int cell) {
            return told.slants[cell] == 2 ? 2 * cell + 1 : 2 * cell;
        }

        private void place(int edge, int from, int to, int direction, int lefts, int rights) {
            tail[edge] = from;
            head[edge] = to;
            leftFace[edge] = lefts;
            rightFace[edge] = rights;
            sides[lefts]++;
            sides[rights]++;
            darts[from * DIRECTIONS + direction] = edge;
            darts[to * DIRECTIONS + (direction + 4) % DIRECTIONS] = edge;
            edgeList[edgeCount] = edge;
            edgeCount++;
        }

        private void walkRim() {
            int w = told.w;
            int h = told.h;
            rimCount = 0;
            for (int x = 0; x < w - 1; x++) {
                addToRim(x, 3 * x);
            }
            for (int y = 0; y < h - 1; y++) {
                int node = y * w + w - 1;
                addToRim(node, 3 * node + 1);
            }
            for (int x = w - 1; x > 0; x--) {
                int node = (h - 1) * w + x;
                addToRim(node, 3 * (node - 1));
            }
            for (int y = h - 1; y > 0; y--) {
                addToRim(y * w, 3 * (y - 1) * w + 1);
            }
        }

        /** The node, and the edge that leads clockwise away from it. */
        private void addToRim(int node, int edge) {
            rimNodes[rimCount] = node;
            rimEdges[rimCount] = edge;
            rimCount++;
        }

        boolean hasNode(int node) {
            return node >= 0 && node < nodeCount;
        }

        boolean hasEdge(int edge) {
            return edge >= 0 && edge < EDGE_ROOM && tail[edge] != NONE;
        }

        boolean hasFace(int face) {
            return face >= 0 && face < FACE_ROOM && sides[face] > 0;
        }

        /** A cell has its whole, or its upper half, as a face. */
        boolean hasCell(int node) {
            return node >= 0 && node < NODE_ROOM && sides[2 * node] > 0;
        }

        int rimIndex(int node) {
            for (int k = 0; k < rimCount; k++) {
                if (rimNodes[k] == node) {
                    return k;
                }
            }
            return NONE;
        }

        int endBeyond(int edge, int node) {
            return tail[edge] == node ? head[edge] : tail[edge];
        }

        int faceBeyond(int edge, int face) {
            return leftFace[edge] == face ? rightFace[edge] : leftFace[edge];
        }

        /** What it costs to cross the edge, coming from this face. */
        int costFrom(int edge, int face) {
            return leftFace[edge] == face ? forth[edge] : hither[edge];
        }

        boolean bounds(int edge, int face) {
            return leftFace[edge] == face || rightFace[edge] == face;
        }

        boolean isAtFace(int node, int face) {
            for (int k = 0; k < edgeCount; k++) {
                int edge = edgeList[k];
                if (bounds(edge, face) && (tail[edge] == node || head[edge] == node)) {
                    return true;
                }
            }
            return false;
        }

        int allBorne() {
            int sum = 0;
            for (int k = 0; k < edgeCount; k++) {
                sum += forth[edgeList[k]] + hither[edgeList[k]];
            }
            return sum;
        }

        /** All that nodes give (sign 1), or take (sign -1). */
        int allSupplied(int sign) {
            int sum = 0;
            for (int node = 0; node < nodeCount; node++) {
                sum += Math.max(0, sign * told.supplies[node]);
            }
            return sum;
        }
    }

    /** Distances from OUTER to all faces, or the ring that keeps them from being. */
    private static final class Dual {
        final int[] best = new int[FACE_ROOM];
        final int[] from = new int[FACE_ROOM];
        final int[] ringFaces = new int[FACE_ROOM];
        int ringCount;
        int ringCost;
        private int latest;

        /** Whether there is a circulation: then BEST of each face is its potential. */
        boolean solve(Net net) {
            Arrays.fill(best, UNKNOWN);
            Arrays.fill(from, NONE);
            best[OUTER] = 0;
            boolean changed = true;
            // a round that changes nothing is like all that would follow it
            for (int round = 0; round < net.faceCount && changed; round++) {
                changed = relaxAll(net, false);
            }
            return !changed || !relaxAll(net, true);
        }

        /** One round over all edges, or only up to the first face that gets less: whether one did. */
        private boolean relaxAll(Net net, boolean onlyFirst) {
            boolean changed = false;
            for (int k = 0; k < net.edgeCount && !(onlyFirst && changed); k++) {
                int edge = net.edgeList[k];
                int lefts = net.leftFace[edge];
                int rights = net.rightFace[edge];
                // both at once cannot be, as an edge bears 0 at least both ways together
                changed |= relax(lefts, rights, edge, net.forth[edge]) || relax(rights, lefts, edge, net.hither[edge]);
            }
            return changed;
        }

        private boolean relax(int start, int end, int edge, int cost) {
            if (best[start] == UNKNOWN || best[start] + cost >= best[end]) {
                return false;
            }
            best[end] = best[start] + cost;
            from[end] = edge;
            latest = end;
            return true;
        }

        /** Behind a solve that found no circulation. */
        void traceRing(Net net) {
            int start = latest;
            for (int i = 0; i < net.faceCount; i++) {
                start = faceBefore(net, start);
            }
            ringCount = 0;
            ringCost = 0;
            int face = start;
            for (int i = 0; i < net.faceCount; i++) {
                ringFaces[ringCount] = face;
                ringCount++;
                int before = faceBefore(net, face);
                ringCost += before == face ? 0 : net.costFrom(from[face], before);
                face = before;
                if (face == start) {
                    return;
                }
            }
        }

        private int faceBefore(Net net, int face) {
            return from[face] == NONE ? face : net.faceBeyond(from[face], face);
        }
    }

    /** Least costs, and fewest crossings among those, from all faces to one; only where no ring costs less than 0. */
    private static final class Routes {
        /** A key is cost * SCALE + hops: one comparison looks at the cost first, then at the hops. */
        private static final int SCALE_BITS = 12;
        private static final int SCALE = 1 << SCALE_BITS;

        private final int[] keys = new int[FACE_ROOM];

        void aim(Net net, int target) {
            Arrays.fill(keys, UNKNOWN);
            keys[target] = 0;
            boolean changed = true;
            for (int round = 0; round <= net.faceCount && changed; round++) {
                changed = relaxAll(net);
            }
        }

        private boolean relaxAll(Net net) {
            boolean changed = false;
            for (int k = 0; k < net.edgeCount; k++) {
                int edge = net.edgeList[k];
                changed |= relax(net.leftFace[edge], net.rightFace[edge], net.forth[edge]);
                changed |= relax(net.rightFace[edge], net.leftFace[edge], net.hither[edge]);
            }
            return changed;
        }

        private boolean relax(int start, int next, int cost) {
            if (keys[next] == UNKNOWN || keyBy(next, cost) >= keys[start]) {
                return false;
            }
            keys[start] = keyBy(next, cost);
            return true;
        }

        private int keyBy(int next, int cost) {
            return keys[next] + cost * SCALE + 1;
        }

        int costFrom(int face) {
            return keys[face] >> SCALE_BITS;
        }

        int hopsFrom(int face) {
            return keys[face] & (SCALE - 1);
        }

        /** The i-th edge of the route to the face aimed at; NONE if it is shorter. */
        int crossing(Net net, int start, int target, int i) {
            int face = start;
            for (int hop = 0; hop < net.faceCount && face != target; hop++) {
                int edge = firstEdge(net, face);
                if (edge == NONE || hop == i) {
                    return edge;
                }
                face = net.faceBeyond(edge, face);
            }
            return NONE;
        }

        private int firstEdge(Net net, int face) {
            for (int k = 0; k < net.edgeCount; k++) {
                int edge = net.edgeList[k];
                if (net.bounds(edge, face)
                        && keyBy(net.faceBeyond(edge, face), net.costFrom(edge, face)) == keys[face]) {
                    return edge;
                }
            }
            return NONE;
        }
    }

    /** The least cost across a grid whose outside is parted in two by two nodes of it. */
    private static final class Halves {
        private static final int OUTER_RIGHT = FACE_ROOM;

        private final int[] best = new int[FACE_ROOM + 1];
        private final int[] isLeft = new int[EDGE_ROOM];

        int least(Net net, int s, int t) {
            markLeft(net, s, t);
            Arrays.fill(best, UNKNOWN);
            best[OUTER] = 0;
            boolean changed = true;
            for (int round = 0; round <= net.faceCount + 1 && changed; round++) {
                changed = relaxAll(net);
            }
            return best[OUTER_RIGHT];
        }

        private void markLeft(Net net, int s, int t) {
            Arrays.fill(isLeft, 0);
            int at = net.rimIndex(s);
            for (int k = 0; k < net.rimCount && at >= 0 && net.rimNodes[at] != t; k++) {
                isLeft[net.rimEdges[at]] = 1;
                at = at + 1 < net.rimCount ? at + 1 : 0;
            }
        }

        private boolean relaxAll(Net net) {
            boolean changed = false;
            for (int k = 0; k < net.edgeCount; k++) {
                int edge = net.edgeList[k];
                int lefts = partOf(net.leftFace[edge], edge);
                int rights = partOf(net.rightFace[edge], edge);
                changed |= relax(lefts, rights, net.forth[edge]);
                changed |= relax(rights, lefts, net.hither[edge]);
            }
            return changed;
        }

        private int partOf(int face, int edge) {
            return face == OUTER && isLeft[edge] == 0 ? OUTER_RIGHT : face;
        }

        private boolean relax(int start, int end, int cost) {
            if (best[start] == UNKNOWN || best[start] + cost >= best[end]) {
                return false;
            }
            best[end] = best[start] + cost;
            return true;
        }
    }

    /** One FLOW: what every edge carries, and how it came to be. */
    private static final class Stream {
        static final int NOTHING = 0;
        static final int BETWEEN = 1;
        static final int GATHERED = 2;
        static final int MET = 3;

        final int[] carried = new int[EDGE_ROOM];
        final int[] given = new int[NODE_ROOM];
        final int[] wants = new int[NODE_ROOM];
        private final Search search = new Search();
        int kind;
        int source;
        int sink;
        int wayCount;
        int longest;
        int least;

        void forget() {
            kind = NOTHING;
        }

        int runBetween(Net net, Dual dual, int s, int t) {
            begin(net, dual, BETWEEN, s, t);
            wants[t] = PLENTY;
            return pour(net, s, PLENTY);
        }

        int runFromFace(Net net, Dual dual, int face, int t, int each) {
            begin(net, dual, GATHERED, NONE, t);
            wants[t] = PLENTY;
            int sum = 0;
            for (int node = 0; node < net.nodeCount; node++) {
                if (node != t && net.isAtFace(node, face)) {
                    sum += pour(net, node, each);
                }
            }
            return sum;
        }

        int runSupplies(Net net, Dual dual) {
            begin(net, dual, MET, NONE, NONE);
            int[] supplies = net.told.supplies;
            for (int node = 0; node < net.nodeCount; node++) {
                wants[node] = Math.max(0, -supplies[node]);
            }
            int sum = 0;
            for (int node = 0; node < net.nodeCount; node++) {
                sum += pour(net, node, Math.max(0, supplies[node]));
            }
            return sum;
        }

        /** The circulation alone, by the potentials of a dual that was solved. */
        private void begin(Net net, Dual dual, int newKind, int s, int t) {
            for (int k = 0; k < net.edgeCount; k++) {
                int edge = net.edgeList[k];
                carried[edge] = dual.best[net.rightFace[edge]] - dual.best[net.leftFace[edge]];
            }
            Arrays.fill(given, 0);
            Arrays.fill(wants, 0);
            kind = newKind;
            source = s;
            sink = t;
            wayCount = 0;
            longest = 0;
            least = 0;
        }

        /** Ways from a node to those that want something, till it has given the limit: how much it gave. */
        private int pour(Net net, int start, int limit) {
            int rest = limit;
            for (int i = 0; i < PLENTY && rest > 0; i++) {
                if (!search.find(net, this, start)) {
                    break;
                }
                rest -= push(net, start, rest);
            }
            return limit - rest;
        }

        private int push(Net net, int start, int rest) {
            int end = search.nodeAt(search.depth);
            int amount = Math.min(rest, wants[end]);
            for (int step = 1; step <= search.depth; step++) {
                int edge = search.edgeTo(step);
                amount = Math.min(amount, spare(net, edge, net.head[edge] == search.nodeAt(step)));
            }
            for (int step = 1; step <= search.depth; step++) {
                int edge = search.edgeTo(step);
                carried[edge] += net.head[edge] == search.nodeAt(step) ? amount : -amount;
            }
            given[start] += amount;
            given[end] -= amount;
            wants[end] -= amount;
            least = wayCount == 0 ? amount : Math.min(least, amount);
            longest = Math.max(longest, search.depth);
            wayCount++;
            return amount;
        }

        int spare(Net net, int edge, boolean isForth) {
            return isForth ? net.forth[edge] - carried[edge] : net.hither[edge] + carried[edge];
        }

        int gain(Net net, int node) {
            int sum = 0;
            for (int k = 0; k < net.edgeCount; k++) {
                int edge = net.edgeList[k];
                if (net.head[edge] == node) {
                    sum += carried[edge];
                } else if (net.tail[edge] == node) {
                    sum -= carried[edge];
                }
            }
            return sum;
        }
    }

    /** The search for one way, leftmost darts first; it stands as a row of nodes from 0 to depth. */
    private static final class Search {
        private final int[] seen = new int[NODE_ROOM];
        private final int[] nodes = new int[NODE_ROOM];
        private final int[] edges = new int[NODE_ROOM];
        private final int[] firsts = new int[NODE_ROOM];
        private final int[] tried = new int[NODE_ROOM];
        int depth;

        int nodeAt(int step) {
            return nodes[step];
        }

        int edgeTo(int step) {
            return edges[step];
        }

        boolean find(Net net, Stream stream, int start) {
            Arrays.fill(seen, 0);
            depth = -1;
            enter(start, NONE, 0);
            // every node is come to once, tries each direction once and is left once
            for (int step = 0; step < NODE_ROOM * (DIRECTIONS + 1) && depth >= 0; step++) {
                if (tried[depth] == DIRECTIONS) {
                    depth--;
                } else if (advance(net, stream) && stream.wants[nodes[depth]] > 0) {
                    return true;
                }
            }
            return false;
        }

        /** Tries the next dart of the node where the search stands: whether it led to another one. */
        private boolean advance(Net net, Stream stream) {
            int node = nodes[depth];
            int direction = (firsts[depth] + tried[depth]) % DIRECTIONS;
            tried[depth]++;
            int edge = net.darts[node * DIRECTIONS + direction];
            if (edge == NONE || stream.spare(net, edge, net.tail[edge] == node) <= 0) {
                return false;
            }
            int next = net.endBeyond(edge, node);
            if (seen[next] != 0 || depth + 1 >= NODE_ROOM) {
                return false;
            }
            // seen from the next node the dart it came by lies half around; clockwise behind that it goes on
            enter(next, edge, (direction + DIRECTIONS / 2 + 1) % DIRECTIONS);
            return true;
        }

        private void enter(int node, int edge, int first) {
            depth++;
            nodes[depth] = node;
            edges[depth] = edge;
            firsts[depth] = first;
            tried[depth] = 0;
            seen[node] = 1;
        }
    }

    /** The nodes of both sides of a cut, and the edges between them. */
    private static final class Parting {
        private final int[] reached = new int[NODE_ROOM];
        private final int[] roots = new int[FACE_ROOM];
        private boolean reachedIsInside;

        /** Side 0: inside is what s reaches; side 1: inside is what does not reach t. */
        void divide(Net net, Stream stream, int side) {
            Arrays.fill(reached, 0);
            reachedIsInside = side == 0;
            reached[reachedIsInside ? stream.source : stream.sink] = 1;
            boolean changed = true;
            for (int round = 0; round < NODE_ROOM && changed; round++) {
                changed = spread(net, stream);
            }
        }

        /** From s along the darts that have something left, from t against them. */
        private boolean spread(Net net, Stream stream) {
            boolean changed = false;
            for (int k = 0; k < net.edgeCount; k++) {
                int edge = net.edgeList[k];
                int tail = net.tail[edge];
                int head = net.head[edge];
                if (reached[tail] == reached[head]) {
                    continue;
                }
                boolean isForth = (reached[tail] == 1) == reachedIsInside;
                if (stream.spare(net, edge, isForth) > 0) {
                    reached[tail] = 1;
                    reached[head] = 1;
                    changed = true;
                }
            }
            return changed;
        }

        private boolean parts(Net net, int edge) {
            return reached[net.tail[edge]] != reached[net.head[edge]];
        }

        int size(Net net) {
            int size = 0;
            for (int k = 0; k < net.edgeCount; k++) {
                size += parts(net, net.edgeList[k]) ? 1 : 0;
            }
            return size;
        }

        /** The i-th edge of the cut, or NONE. */
        int member(Net net, int i) {
            int before = 0;
            for (int k = 0; k < net.edgeCount; k++) {
                int edge = net.edgeList[k];
                if (parts(net, edge)) {
                    if (before == i) {
                        return edge;
                    }
                    before++;
                }
            }
            return NONE;
        }

        int cost(Net net) {
            int sum = 0;
            for (int k = 0; k < net.edgeCount; k++) {
                int edge = net.edgeList[k];
                if (parts(net, edge)) {
                    boolean isForth = (reached[net.tail[edge]] == 1) == reachedIsInside;
                    sum += isForth ? net.forth[edge] : net.hither[edge];
                }
            }
            return sum;
        }

        /** Parts of the cut: of the faces at its edges, how many are left when each edge joins its two. */
        int pieces(Net net) {
            Arrays.fill(roots, NONE);
            int pieces = 0;
            for (int k = 0; k < net.edgeCount; k++) {
                int edge = net.edgeList[k];
                if (parts(net, edge)) {
                    pieces += touch(net.leftFace[edge]) + touch(net.rightFace[edge]);
                    pieces -= join(net.leftFace[edge], net.rightFace[edge]);
                }
            }
            return pieces;
        }

        private int touch(int face) {
            if (roots[face] != NONE) {
                return 0;
            }
            roots[face] = face;
            return 1;
        }

        private int join(int one, int other) {
            int oneRoot = roots[one];
            int otherRoot = roots[other];
            if (oneRoot == otherRoot) {
                return 0;
            }
            for (int face = 0; face < FACE_ROOM; face++) {
                if (roots[face] == otherRoot) {
                    roots[face] = oneRoot;
                }
            }
            return 1;
        }
    }

    /** The bytes that were fed; a TEXT on it is read from left to right into a draft, up to its first fault. */
    private static final class Tape {
        private static final int END = 0;
        private static final int WORD = 1;
        private static final int WHOLE = 2;
        private static final int SEMICOLON = 3;
        private static final int NO_TOKEN = 4;
        private static final int UNFIT = 1;
        private static final int OUT_OF_BOUNDS = 2;
        private static final int MOST_DIGITS = 3;

        private final byte[] bytes = new byte[TAPE_ROOM];
        int held;
        private int length;
        private int place;
        private int token;
        private int tokenStart;
        private int value;
        private int fault;

        /** Four bytes, the highest first. */
        void put(int number) {
            for (int shift = 24; shift >= 0 && held < TAPE_ROOM; shift -= 8) {
                bytes[held] = (byte) (number >> shift);
                held++;
            }
        }

        /** The first n bytes, n held at most: how many lines; below 0: the fault as text() answers it. */
        int read(int n, Told draft) {
            length = n;
            held = 0;
            place = 0;
            fault = 0;
            int lines = 0;
            boolean goesOn = readHead(draft);
            // every line takes bytes, so there are fewer than n
            for (int i = 0; i < n && goesOn; i++) {
                next();
                if (token == SEMICOLON) {
                    lines++;
                    goesOn = readLine(draft);
                } else {
                    goesOn = token != END && fail(UNFIT);
                }
            }
            return fault < 0 ? fault : lines;
        }

        private boolean readHead(Told draft) {
            next();
            if (!isWord("grid")) {
                return fail(UNFIT);
            }
            if (!readWhole(LEAST_SIDE, MOST_SIDE)) {
                return false;
            }
            int w = value;
            if (!readWhole(LEAST_SIDE, MOST_SIDE)) {
                return false;
            }
            draft.reset(w, value);
            return true;
        }

        private boolean readLine(Told draft) {
            next();
            if (isWord("all")) {
                return readAll(draft);
            }
            if (isWord("right")) {
                return readOne(draft, 0, 0);
            }
            if (isWord("down")) {
                return readOne(draft, 1, 0);
            }
            if (isWord("slash")) {
                return readOne(draft, 2, 1);
            }
            if (isWord("back")) {
                return readOne(draft, 2, 2);
            }
            return fail(UNFIT);
        }

        private boolean readAll(Told draft) {
            if (!readWhole(-MOST, MOST)) {
                return false;
            }
            int forth = value;
            if (!readWhole(Math.max(-MOST, -forth), MOST)) {
                return false;
            }
            for (int y = 0; y < draft.h; y++) {
                for (int x = 0; x < draft.w; x++) {
                    loadAt(draft, x, y, forth, value);
                }
            }
            return true;
        }

        private void loadAt(Told draft, int x, int y, int forth, int hither) {
            int node = y * draft.w + x;
            for (int kind = 0; kind < 3; kind++) {
                if (draft.fits(kind, x, y) && (kind < 2 || draft.slants[node] != 0)) {
                    draft.load(3 * node + kind, forth, hither);
                }
            }
        }

        private boolean readOne(Told draft, int kind, int how) {
            if (!readWhole(0, draft.lastX(kind))) {
                return false;
            }
            int x = value;
            if (!readWhole(0, draft.lastY(kind))) {
                return false;
            }
            int node = value * draft.w + x;
            if (!readWhole(-MOST, MOST)) {
                return false;
            }
            int forth = value;
            if (!readWhole(Math.max(-MOST, -forth), MOST)) {
                return false;
            }
            if (kind == 2) {
                draft.lean(node, how);
            }
            draft.load(3 * node + kind, forth, value);
            return true;
        }

        private boolean readWhole(int low, int high) {
            next();
            if (token != WHOLE) {
                return fail(UNFIT);
            }
            return value >= low && value <= high || fail(OUT_OF_BOUNDS);
        }

        /** Always false, so that a reader can end with it. */
        private boolean fail(int kind) {
            fault = -2 - (8 * tokenStart + kind);
            return false;
        }

        private void next() {
            while (place < length && (bytes[place] == ' ' || bytes[place] == '\n')) {
                place++;
            }
            tokenStart = place;
            if (place >= length) {
                token = END;
            } else if (isLetter(place)) {
                token = WORD;
                while (place < length && isLetter(place)) {
                    place++;
                }
            } else if (bytes[place] == ';') {
                token = SEMICOLON;
                place++;
            } else {
                token = scanWhole() ? WHOLE : NO_TOKEN;
            }
        }

        /** Four digits that stand together are no WHOLE, nor the beginning of one. */
        private boolean scanWhole() {
            boolean isNegative = bytes[place] == '-';
            if (isNegative) {
                place++;
            }
            value = 0;
            int digits = 0;
            while (place < length && bytes[place] >= '0' && bytes[place] <= '9' && digits <= MOST_DIGITS) {
                value = 10 * value + (bytes[place] - '0');
                place++;
                digits++;
            }
            if (isNegative) {
                value = -value;
            }
            return digits >= 1 && digits <= MOST_DIGITS;
        }

        private boolean isLetter(int at) {
            return bytes[at] >= 'a' && bytes[at] <= 'z';
        }

        private boolean isWord(String word) {
            if (token != WORD || place - tokenStart != word.length()) {
                return false;
            }
            for (int i = 0; i < word.length(); i++) {
                if (bytes[tokenStart + i] != word.charAt(i)) {
                    return false;
                }
            }
            return true;
        }
    }
}
