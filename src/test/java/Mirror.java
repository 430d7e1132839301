import java.util.List;
import java.util.TreeMap;

/** What each call of the face is due to answer, by the model; Model.THROWS stands for the exception. */
final class Mirror {
    private static final int NONE = -1;

    Model m = new Model();
    final Model[] images = new Model[2];
    private final StringBuilder tape = new StringBuilder();

    int feed(int[] five) {
        if (tape.length() + 20 > 600) {
            return NONE;
        }
        for (int number : five) {
            for (int shift = 24; shift >= 0; shift -= 8) {
                tape.append((char) (number >>> shift & 255));
            }
        }
        return tape.length();
    }

    int text(int n) {
        if (n < 0 || n > tape.length()) {
            return NONE;
        }
        TextModel read = new TextModel(tape.substring(0, n));
        tape.setLength(0);
        if (read.fault != 0) {
            return read.fault;
        }
        m = read.told;
        return read.lines;
    }

    int grid(int w, int h) {
        if (w < 2 || w > 6 || h < 2 || h > 6) {
            return NONE;
        }
        m = new Model();
        m.w = w;
        m.h = h;
        return m.edges().size();
    }

    int slant(int node, int how) {
        if (!m.hasCell(node) || how < 0 || how > 2) {
            return NONE;
        }
        int was = m.slants.getOrDefault(node, 0);
        m.slants.put(node, how);
        m.bears.remove(3 * node + 2);
        m.flow = null;
        return was;
    }

    int bears(int edge, int forth, int back) {
        if (!m.edges().containsKey(edge) || Math.abs((long) forth) > 99 || Math.abs((long) back) > 99
                || forth + back < 0) {
            return 0;
        }
        m.bears.put(edge, new int[] {forth, back});
        m.flow = null;
        return 1;
    }

    int edge(int edge, int what) {
        Model.Edge e = m.edges().get(edge);
        if (e == null || what < 0 || what > 5) {
            return -101;
        }
        return new int[] {e.from, e.to, e.forth, e.back, m.faceBeside(e, 1), m.faceBeside(e, -1)}[what];
    }

    int around(int face) {
        return m.faces().contains(face) ? m.around(face) : Model.THROWS;
    }

    int distance(int from, int to) {
        if (!m.faces().contains(from) || !m.faces().contains(to)) {
            return Model.THROWS;
        }
        long[][][] d = m.distances();
        return d == null ? -100000 : (int) d[from][to][0];
    }

    int route(int from, int to, int i) {
        if (!m.faces().contains(from) || !m.faces().contains(to) || !m.circulates()) {
            return NONE;
        }
        List<Integer> route = m.route(from, to);
        if (i == NONE) {
            return (int) m.distances()[from][to][1];
        }
        return i >= 0 && i < route.size() ? route.get(i) : NONE;
    }

    int circulates() {
        return m.circulates() ? 1 : 0;
    }

    int potential(int face) {
        return distance(Model.OUTER, face);
    }

    int ring(int i) {
        if (m.circulates()) {
            return -101;
        }
        List<Integer> ring = m.ring();
        int size = ring.size() - 1;
        if (i == -2) {
            return ring.get(size);
        }
        if (i == NONE) {
            return size;
        }
        return i >= 0 && i < size ? ring.get(i) : -101;
    }

    private int keep(Model.Flow flow) {
        if (flow == null) {
            return -2;
        }
        m.flow = flow;
        return flow.value;
    }

    private boolean isPair(int s, int t) {
        return m.hasNode(s) && m.hasNode(t) && s != t;
    }

    int flow(int s, int t) {
        return isPair(s, t) ? keep(m.between(s, t)) : NONE;
    }

    int on(int edge) {
        return m.flow == null || !m.edges().containsKey(edge) ? Model.THROWS : m.flow.on.get(edge);
    }

    int left(int edge, int way) {
        Model.Edge e = m.edges().get(edge);
        if (m.flow == null || e == null || way != 0 && way != 1) {
            return Model.THROWS;
        }
        return m.left(m.flow, e, way == 0);
    }

    int ways(int what) {
        if (m.flow == null) {
            return NONE;
        }
        switch (what) {
            case 0: return m.flow.amounts.size();
            case 1: return m.flow.lengths.stream().mapToInt(k -> k).max().orElse(0);
            case 2: return m.flow.amounts.stream().mapToInt(k -> k).min().orElse(0);
            case 3: return m.flow.s;
            case 4: return m.flow.t;
            default: return NONE;
        }
    }

    int excess(int node) {
        return m.flow == null || !m.hasNode(node) ? Model.THROWS : m.excess(node);
    }

    private boolean hasCut(int side) {
        return m.flow != null && m.flow.kind == 'b' && (side == 0 || side == 1);
    }

    int cut(int side, int i) {
        if (!hasCut(side)) {
            return -101;
        }
        List<Model.Edge> cut = m.cut(side);
        if (i == -2) {
            return m.cutCost(side);
        }
        if (i == NONE) {
            return cut.size();
        }
        return i >= 0 && i < cut.size() ? cut.get(i).number : -101;
    }

    int rings(int side) {
        return hasCut(side) ? m.rings(side) : NONE;
    }

    int shared(int s, int t) {
        // what flows most, by the flow itself
        return isPair(s, t) && m.isOnOuter(s) && m.isOnOuter(t) ? m.value(s, t) : NONE;
    }

    int gather(int face, int t, int each) {
        if (!m.faces().contains(face) || !m.hasNode(t) || each < 1 || each > 999) {
            return NONE;
        }
        return keep(m.gathered(face, t, each));
    }

    int supply(int node, int amount) {
        if (!m.hasNode(node) || amount < -99 || amount > 99) {
            return -101;
        }
        int was = m.supplies[node];
        m.supplies[node] = amount;
        return was;
    }

    int meet() {
        return keep(m.met());
    }

    int gave(int node) {
        return m.flow == null || m.flow.kind == 'b' || !m.hasNode(node) ? -101 : m.flow.gave[node];
    }

    int were(int edge, int what, int s, int t) {
        Model.Edge e = m.edges().get(edge);
        if (e == null || what < 0 || what > 2 || !isPair(s, t)) {
            return NONE;
        }
        if (what == 0) {
            return m.valueWith(edge, 0, 0, s, t);
        }
        return what == 1 ? m.valueWith(edge, e.forth + 1, e.back, s, t) : m.valueWith(edge, e.forth, e.back + 1, s, t);
    }

    int counts(int what, int s, int t) {
        if (what != 0 && what != 1 || !isPair(s, t)) {
            return NONE;
        }
        int now = m.value(s, t);
        if (now == -2) {
            return -2;
        }
        int found = 0;
        for (Model.Edge e : m.edges().values()) {
            if (what == 0) {
                int then = m.valueWith(e.number, 0, 0, s, t);
                found += then == -2 || then < now ? 1 : 0;
            } else {
                found += m.valueWith(e.number, e.forth + 1, e.back + 1, s, t) > now ? 1 : 0;
            }
        }
        return found;
    }

    int worst(int s, int what) {
        if (!m.hasNode(s) || what != 0 && what != 1) {
            return NONE;
        }
        if (!m.circulates()) {
            return -2;
        }
        TreeMap<Integer, Integer> firstOf = new TreeMap<>();
        for (int t = 0; t < m.w * m.h; t++) {
            if (t != s) {
                firstOf.putIfAbsent(m.value(s, t), t);
            }
        }
        return what == 0 ? firstOf.firstEntry().getValue() : firstOf.firstKey();
    }

    int image(int i) {
        if (i != 0 && i != 1) {
            return 0;
        }
        images[i] = m.copy();
        return 1;
    }

    int back(int i) {
        if (i != 0 && i != 1 || images[i] == null) {
            return 0;
        }
        m = images[i].copy();
        return 1;
    }

    int count(int what) {
        switch (what) {
            case 0: return m.w;
            case 1: return m.h;
            case 2: return m.edges().size();
            case 3: return m.faces().size();
            case 4: return (int) m.edges().keySet().stream().filter(e -> e % 3 == 2).count();
            case 5: return m.edges().values().stream().mapToInt(e -> e.forth + e.back).sum();
            case 6: return m.flow == null ? 0 : 1;
            case 7: return tape.length();
            case 8: return java.util.Arrays.stream(m.supplies).filter(k -> k > 0).sum();
            case 9: return -java.util.Arrays.stream(m.supplies).filter(k -> k < 0).sum();
            default: return NONE;
        }
    }
}
