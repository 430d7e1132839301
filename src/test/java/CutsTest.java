import java.util.Random;

/** Small grids against all sets of their nodes: the most that flows is the least that a set lets out. */
public final class CutsTest {
    public static void main(String[] args) {
        Random random = new Random(7);
        int circulating = 0;
        int runs = 400;
        for (int run = 0; run < runs; run++) {
            PlanarFlow x = new PlanarFlow();
            Model m = new Model();
            m.w = 2 + random.nextInt(2);
            m.h = 2 + random.nextInt(2);
            x.grid(m.w, m.h);
            fill(x, m, random, run % 3);
            boolean there = m.circulatesByCuts();
            circulating += there ? 1 : 0;
            Check.due("run " + run + ": circulates()", x.circulates(), there ? 1 : 0);
            compareAll(x, m, run, there);
        }
        Check.due("some grids circulate", circulating > runs / 5, true);
        Check.due("some do not", circulating < runs * 4 / 5, true);
        Check.end("CutsTest");
    }

    private static void fill(PlanarFlow x, Model m, Random random, int temper) {
        for (int node = 0; node < m.w * m.h; node++) {
            int how = random.nextInt(3);
            if (m.hasCell(node)) {
                x.slant(node, how);
                m.slants.put(node, how);
            }
        }
        for (int edge : m.edges().keySet()) {
            int forth = random.nextInt(10) - 3 * temper;
            int back = Math.max(-forth, random.nextInt(10) - 3 * temper);
            x.bears(edge, forth, back);
            m.bears.put(edge, new int[] {forth, back});
        }
    }

    private static void compareAll(PlanarFlow x, Model m, int run, boolean there) {
        for (int s = 0; s < m.w * m.h; s++) {
            for (int t = 0; t < m.w * m.h; t++) {
                if (s == t) {
                    continue;
                }
                int want = there ? m.valueByCuts(s, t) : -2;
                String pair = "(" + s + ", " + t + ")";
                Check.due("run " + run + ": flow" + pair, x.flow(s, t), want);
                if (m.isOnOuter(s) && m.isOnOuter(t)) {
                    Check.due("run " + run + ": shared" + pair, x.shared(s, t), want);
                }
                if (there) {
                    Check.due("run " + run + ": cut(0, -2) of " + pair, x.cut(0, -2), want);
                    Check.due("run " + run + ": cut(1, -2) of " + pair, x.cut(1, -2), want);
                    bounds(x, m, run);
                }
            }
        }
    }

    private static void bounds(PlanarFlow x, Model m, int run) {
        for (Model.Edge e : m.edges().values()) {
            boolean within = x.on(e.number) <= e.forth && x.on(e.number) >= -e.back;
            Check.due("run " + run + ": edge " + e.number + " keeps within what it bears", within, true);
        }
    }
}
