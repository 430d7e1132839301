import java.util.ArrayList;
import java.util.Arrays;
import java.util.HashSet;
import java.util.List;
import java.util.Set;
import java.util.TreeMap;
import java.util.TreeSet;

/**
 * The document told a second time, in another way than the class: faces by points of the plane, darts by angles,
 * distances by Floyd and Warshall, searches by recursion. Slow, and it makes as many objects as it likes.
 */
final class Model {
    static final int NONE = -1;
    static final int OUTER = 72;
    static final int THROWS = Integer.MIN_VALUE;

    /** An edge by its two ends, and what it bears. */
    static final class Edge {
        final int number;
        final int from;
        final int to;
        int forth;
        int back;

        Edge(int number, int from, int to, int forth, int back) {
            this.number = number;
            this.from = from;
            this.to = to;
            this.forth = forth;
            this.back = back;
        }
    }

    /** A flow with its history. */
    static final class Flow {
        final TreeMap<Integer, Integer> on = new TreeMap<>();
        final int[] gave = new int[36];
        char kind;
        int s = NONE;
        int t = NONE;
        int value;
        final List<Integer> amounts = new ArrayList<>();
        final List<Integer> lengths = new ArrayList<>();
    }

    int w = 3;
    int h = 3;
    TreeMap<Integer, Integer> slants = new TreeMap<>();
    TreeMap<Integer, int[]> bears = new TreeMap<>();
    int[] supplies = new int[36];
    Flow flow;

    Model copy() {
        Model copy = new Model();
        copy.w = w;
        copy.h = h;
        copy.slants = new TreeMap<>(slants);
        copy.bears = new TreeMap<>();
        for (int key : bears.keySet()) {
            copy.bears.put(key, bears.get(key).clone());
        }
        copy.supplies = supplies.clone();
        return copy;
    }

    // ---- the shape

    TreeMap<Integer, Edge> edges() {
        TreeMap<Integer, Edge> all = new TreeMap<>();
        for (int n = 0; n < w * h; n++) {
            int x = n % w;
            int y = n / w;
            if (x < w - 1) {
                add(all, 3 * n, n, n + 1);
            }
            if (y < h - 1) {
                add(all, 3 * n + 1, n, n + w);
            }
            int how = slants.getOrDefault(n, 0);
            if (how == 1) {
                add(all, 3 * n + 2, n, n + w + 1);
            } else if (how == 2) {
                add(all, 3 * n + 2, n + 1, n + w);
            }
        }
        return all;
    }

    private void add(TreeMap<Integer, Edge> all, int number, int from, int to) {
        int[] borne = bears.getOrDefault(number, new int[2]);
        all.put(number, new Edge(number, from, to, borne[0], borne[1]));
    }

    boolean hasNode(int node) {
        return node >= 0 && node < w * h;
    }

    boolean hasCell(int node) {
        return hasNode(node) && node % w < w - 1 && node / w < h - 1;
    }

    /** The face in which a point of the plane lies (y downwards). */
    int faceAt(double px, double py) {
        if (px < 0 || py < 0 || px > w - 1 || py > h - 1) {
            return OUTER;
        }
        int x = (int) Math.floor(px);
        int y = (int) Math.floor(py);
        int n = y * w + x;
        double dx = px - x;
        double dy = py - y;
        int how = slants.getOrDefault(n, 0);
        if (how == 1) {
            return dy < dx ? 2 * n : 2 * n + 1;
        }
        if (how == 2) {
            return dx + dy < 1 ? 2 * n : 2 * n + 1;
        }
        return 2 * n;
    }

    /** The face beside an edge: sign 1 to its left, -1 to its right, as one goes forth on a page. */
    int faceBeside(Edge e, int sign) {
        double ax = e.from % w;
        double ay = e.from / w;
        double bx = e.to % w;
        double by = e.to / w;
        double dx = bx - ax;
        double dy = by - ay;
        return faceAt((ax + bx) / 2 + sign * 0.1 * dy, (ay + by) / 2 - sign * 0.1 * dx);
    }

    TreeSet<Integer> faces() {
        TreeSet<Integer> all = new TreeSet<>();
        for (Edge e : edges().values()) {
            all.add(faceBeside(e, 1));
            all.add(faceBeside(e, -1));
        }
        return all;
    }

    int around(int face) {
        int n = 0;
        for (Edge e : edges().values()) {
            n += faceBeside(e, 1) == face || faceBeside(e, -1) == face ? 1 : 0;
        }
        return n;
    }

    TreeSet<Integer> nodesOf(int face) {
        TreeSet<Integer> nodes = new TreeSet<>();
        for (Edge e : edges().values()) {
            if (faceBeside(e, 1) == face || faceBeside(e, -1) == face) {
                nodes.add(e.from);
                nodes.add(e.to);
            }
        }
        return nodes;
    }

    // ---- distances

    /** Costs and hops between all faces, [cost, hops], or null if some ring costs less than 0. */
    long[][][] distances() {
        long none = 1L << 40;
        long[][][] d = new long[73][73][];
        for (long[][] row : d) {
            for (int i = 0; i < 73; i++) {
                row[i] = new long[] {none, 0};
            }
        }
        TreeSet<Integer> faces = faces();
        for (int f : faces) {
            d[f][f] = new long[] {0, 0};
        }
        for (Edge e : edges().values()) {
            int l = faceBeside(e, 1);
            int r = faceBeside(e, -1);
            d[l][r] = lesser(d[l][r], new long[] {e.forth, 1});
            d[r][l] = lesser(d[r][l], new long[] {e.back, 1});
        }
        for (int k : faces) {
            for (int i : faces) {
                for (int j : faces) {
                    d[i][j] = lesser(d[i][j], new long[] {d[i][k][0] + d[k][j][0], d[i][k][1] + d[k][j][1]});
                }
            }
            for (int i : faces) {
                if (d[i][i][0] < 0) {
                    return null;
                }
            }
        }
        return d;
    }

    private static long[] lesser(long[] a, long[] b) {
        return b[0] < a[0] || b[0] == a[0] && b[1] < a[1] ? b : a;
    }

    List<Integer> route(int from, int to) {
        long[][][] d = distances();
        List<Integer> route = new ArrayList<>();
        int f = from;
        while (f != to) {
            for (Edge e : edges().values()) {
                int l = faceBeside(e, 1);
                int r = faceBeside(e, -1);
                if (l != f && r != f) {
                    continue;
                }
                int next = l == f ? r : l;
                int cost = l == f ? e.forth : e.back;
                if (cost + d[next][to][0] == d[f][to][0] && d[next][to][1] + 1 == d[f][to][1]) {
                    route.add(e.number);
                    f = next;
                    break;
                }
            }
        }
        return route;
    }

    boolean circulates() {
        return distances() != null;
    }

    /** By Hoffman: no set of nodes may have to let out more than it can. Only for small grids. */
    boolean circulatesByCuts() {
        for (int set = 1; set < (1 << w * h) - 1; set++) {
            if (bornOut(set) < 0) {
                return false;
            }
        }
        return true;
    }

    int valueByCuts(int s, int t) {
        int least = Integer.MAX_VALUE;
        for (int set = 0; set < 1 << w * h; set++) {
            if ((set >> s & 1) == 1 && (set >> t & 1) == 0) {
                least = Math.min(least, bornOut(set));
            }
        }
        return least;
    }

    private int bornOut(int set) {
        int sum = 0;
        for (Edge e : edges().values()) {
            int a = set >> e.from & 1;
            int b = set >> e.to & 1;
            sum += a == 1 && b == 0 ? e.forth : a == 0 && b == 1 ? e.back : 0;
        }
        return sum;
    }

    /** The ring's faces; the last number is its cost. */
    List<Integer> ring() {
        int[] best = new int[73];
        boolean[] known = new boolean[73];
        Edge[] from = new Edge[73];
        known[OUTER] = true;
        int count = faces().size();
        int at = NONE;
        for (int round = 0; round <= count && at == NONE; round++) {
            for (Edge e : edges().values()) {
                int[] ends = {faceBeside(e, 1), faceBeside(e, -1)};
                for (int way = 0; way < 2; way++) {
                    int a = ends[way];
                    int b = ends[1 - way];
                    int cost = way == 0 ? e.forth : e.back;
                    if (known[a] && (!known[b] || best[a] + cost < best[b]) && at == NONE) {
                        from[b] = e;
                        if (round == count) {
                            at = b;
                        } else {
                            known[b] = true;
                            best[b] = best[a] + cost;
                        }
                    }
                }
            }
        }
        for (int i = 0; i < count; i++) {
            at = beyond(from[at], at);
        }
        List<Integer> ring = new ArrayList<>();
        int cost = 0;
        int face = at;
        do {
            ring.add(face);
            cost += faceBeside(from[face], -1) == face ? from[face].forth : from[face].back;
            face = beyond(from[face], face);
        } while (face != at);
        ring.add(cost);
        return ring;
    }

    private int beyond(Edge e, int face) {
        return faceBeside(e, 1) == face ? faceBeside(e, -1) : faceBeside(e, 1);
    }

    // ---- flows

    private Flow circulation() {
        long[][][] d = distances();
        if (d == null) {
            return null;
        }
        Flow f = new Flow();
        for (Edge e : edges().values()) {
            f.on.put(e.number, (int) (d[OUTER][faceBeside(e, -1)][0] - d[OUTER][faceBeside(e, 1)][0]));
        }
        return f;
    }

    int left(Flow f, Edge e, boolean forth) {
        return forth ? e.forth - f.on.get(e.number) : e.back + f.on.get(e.number);
    }

    /** Edges at a node with the clockwise angle from straight up, sorted by it, counted from an angle on. */
    private List<Edge> clockwise(int node, double first) {
        TreeMap<Double, Edge> sorted = new TreeMap<>();
        for (Edge e : edges().values()) {
            if (e.from == node || e.to == node) {
                double angle = angle(node, e.from == node ? e.to : e.from) - first;
                sorted.put(angle < -1e-9 ? angle + 2 * Math.PI : angle, e);
            }
        }
        return new ArrayList<>(sorted.values());
    }

    private double angle(int node, int to) {
        int dx = to % w - node % w;
        int dy = to / w - node / w;
        double angle = Math.atan2(dx, -dy);
        return angle < -1e-9 ? angle + 2 * Math.PI : angle;
    }

    private boolean search(Flow f, int node, int before, int[] wants, Set<Integer> seen, List<Edge> way) {
        if (before != NONE && wants[node] > 0) {
            return true;
        }
        List<Edge> tries = clockwise(node, before == NONE ? 0 : angle(node, before));
        for (Edge e : tries) {
            int next = e.from == node ? e.to : e.from;
            if (next == before || seen.contains(next) || left(f, e, e.from == node) <= 0) {
                continue;
            }
            seen.add(next);
            way.add(e);
            if (search(f, next, node, wants, seen, way)) {
                return true;
            }
            way.remove(way.size() - 1);
        }
        return false;
    }

    private void pour(Flow f, int start, int limit, int[] wants) {
        int rest = limit;
        while (rest > 0) {
            List<Edge> way = new ArrayList<>();
            Set<Integer> seen = new HashSet<>();
            seen.add(start);
            if (!search(f, start, NONE, wants, seen, way)) {
                return;
            }
            int node = start;
            int amount = rest;
            for (Edge e : way) {
                amount = Math.min(amount, left(f, e, e.from == node));
                node = e.from == node ? e.to : e.from;
            }
            amount = Math.min(amount, wants[node]);
            wants[node] -= amount;
            f.gave[node] -= amount;
            f.gave[start] += amount;
            node = start;
            for (Edge e : way) {
                f.on.put(e.number, f.on.get(e.number) + (e.from == node ? amount : -amount));
                node = e.from == node ? e.to : e.from;
            }
            f.amounts.add(amount);
            f.lengths.add(way.size());
            f.value += amount;
            rest -= amount;
        }
    }

    Flow between(int s, int t) {
        Flow f = circulation();
        if (f != null) {
            f.kind = 'b';
            f.s = s;
            f.t = t;
            int[] wants = new int[36];
            wants[t] = 1 << 30;
            pour(f, s, 1 << 30, wants);
        }
        return f;
    }

    Flow gathered(int face, int t, int each) {
        Flow f = circulation();
        if (f != null) {
            f.kind = 'g';
            f.t = t;
            int[] wants = new int[36];
            wants[t] = 1 << 30;
            for (int node : nodesOf(face)) {
                if (node != t) {
                    pour(f, node, each, wants);
                }
            }
        }
        return f;
    }

    Flow met() {
        Flow f = circulation();
        if (f != null) {
            f.kind = 'm';
            int[] wants = new int[36];
            for (int n = 0; n < w * h; n++) {
                wants[n] = Math.max(0, -supplies[n]);
            }
            for (int n = 0; n < w * h; n++) {
                if (supplies[n] > 0) {
                    pour(f, n, supplies[n], wants);
                }
            }
        }
        return f;
    }

    /** Nodes inside the cut of the present flow. */
    Set<Integer> inside(int side) {
        Set<Integer> found = new HashSet<>();
        found.add(side == 0 ? flow.s : flow.t);
        boolean grows = true;
        while (grows) {
            grows = false;
            for (Edge e : edges().values()) {
                boolean fromTo = left(flow, e, true) > 0;
                boolean toFrom = left(flow, e, false) > 0;
                int a = side == 0 ? e.from : e.to;
                int b = side == 0 ? e.to : e.from;
                if (fromTo && found.contains(a)) {
                    grows |= found.add(b);
                }
                if (toFrom && found.contains(b)) {
                    grows |= found.add(a);
                }
            }
        }
        if (side == 0) {
            return found;
        }
        Set<Integer> rest = new HashSet<>();
        for (int n = 0; n < w * h; n++) {
            if (!found.contains(n)) {
                rest.add(n);
            }
        }
        return rest;
    }

    List<Edge> cut(int side) {
        Set<Integer> inside = inside(side);
        List<Edge> cut = new ArrayList<>();
        for (Edge e : edges().values()) {
            if (inside.contains(e.from) != inside.contains(e.to)) {
                cut.add(e);
            }
        }
        return cut;
    }

    int cutCost(int side) {
        Set<Integer> inside = inside(side);
        int sum = 0;
        for (Edge e : cut(side)) {
            sum += inside.contains(e.from) ? e.forth : e.back;
        }
        return sum;
    }

    int rings(int side) {
        List<Edge> rest = new ArrayList<>(cut(side));
        int parts = 0;
        while (!rest.isEmpty()) {
            parts++;
            List<Edge> part = new ArrayList<>();
            part.add(rest.remove(0));
            for (int i = 0; i < part.size(); i++) {
                for (int k = rest.size() - 1; k >= 0; k--) {
                    if (meets(part.get(i), rest.get(k))) {
                        part.add(rest.remove(k));
                    }
                }
            }
        }
        return parts;
    }

    private boolean meets(Edge a, Edge b) {
        Set<Integer> faces = new HashSet<>(Arrays.asList(faceBeside(a, 1), faceBeside(a, -1)));
        return faces.contains(faceBeside(b, 1)) || faces.contains(faceBeside(b, -1));
    }

    boolean isOnOuter(int node) {
        return nodesOf(OUTER).contains(node);
    }

    int excess(int node) {
        int sum = 0;
        for (Edge e : edges().values()) {
            sum += e.to == node ? flow.on.get(e.number) : 0;
            sum -= e.from == node ? flow.on.get(e.number) : 0;
        }
        return sum;
    }

    /** VALUE, or -2. */
    int value(int s, int t) {
        Flow f = between(s, t);
        return f == null ? -2 : f.value;
    }

    int valueWith(int edge, int forth, int back, int s, int t) {
        Model other = copy();
        other.bears.put(edge, new int[] {forth, back});
        return other.value(s, t);
    }
}
