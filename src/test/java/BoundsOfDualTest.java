import java.util.Map;
import java.util.TreeSet;

/** Promises 9 to 13 and 21: distances, routes, potentials, rings and what is SHARED, at their bounds. */
public final class BoundsOfDualTest {
    private static final int NONE = -1;
    private static final int THERE_ARE_NONE = -100000;

    public static void main(String[] args) {
        toItself();
        noSuchFaces();
        greatestDistances();
        distancesBelowZero();
        ringOfNothingIsNoHindrance();
        routesByIndex();
        longestRoute();
        routeAslant();
        fewestCrossings();
        potentialsAreDistances();
        shortestRing();
        ringWithinTheGrid();
        ringsByIndex();
        noRingWithCirculation();
        justEnoughCirculates();
        sharedByNeighbours();
        sharedOfEverySize();
        sharedIsTheFlow();
        sharedWithoutCirculation();
        Check.end("BoundsOfDualTest");
    }

    private static PlanarFlow greatest(int how, int forth, int back) {
        PlanarFlow x = new PlanarFlow();
        x.grid(6, 6);
        for (int n = 0; n < 36; n++) {
            x.slant(n, how);
        }
        for (int edge = 0; edge < 108; edge++) {
            x.bears(edge, forth, back);
        }
        return x;
    }

    // Promise 9: of a FACE to itself nothing is crossed
    private static void toItself() {
        PlanarFlow x = greatest(1, 99, 99);
        for (int face = 0; face <= 72; face++) {
            if (face == 72 || x.route(face, 72, NONE) > 0) {
                Check.due("distance(" + face + ", itself)", x.distance(face, face), 0);
                Check.due("route(" + face + ", itself, -1)", x.route(face, face, NONE), 0);
                Check.due("route(" + face + ", itself, 0)", x.route(face, face, 0), NONE);
            }
        }
    }

    // Promises 9, 10, 12: no such FACES, also where there are no DISTANCES at all
    private static void noSuchFaces() {
        PlanarFlow calm = Check.told("grid 3 3;slash 0 0 1 1");
        PlanarFlow torn = Check.told("grid 3 3;slash 0 0 1 1;right 0 0 9 -9");
        for (PlanarFlow x : new PlanarFlow[] {calm, torn}) {
            for (int face : new int[] {-1, 3, 4, 5, 7, 9, 10, 70, 71, 73, 74, Integer.MIN_VALUE, Integer.MAX_VALUE}) {
                Check.throwsNoSuch("distance(" + face + ", 72)", () -> x.distance(face, 72));
                Check.throwsNoSuch("distance(72, " + face + ")", () -> x.distance(72, face));
                Check.throwsNoSuch("distance of both", () -> x.distance(face, face));
                Check.throwsNoSuch("potential(" + face + ")", () -> x.potential(face));
                Check.due("route(" + face + ", 72, -1)", x.route(face, 72, NONE), NONE);
                Check.due("route(72, " + face + ", 0)", x.route(72, face, 0), NONE);
            }
            int want = x == calm ? 0 : THERE_ARE_NONE;
            for (int face : new int[] {0, 1, 2, 6, 8, 72}) {
                Check.due("potential(" + face + ")", Math.min(x.potential(face), 0), want);
            }
        }
    }

    // Promise 9: by the most that edges bear
    private static void greatestDistances() {
        PlanarFlow x = greatest(0, 99, 99);
        Check.due("from the middle out", x.distance(28, 72), 3 * 99);
        Check.due("from the middle to a corner", x.distance(28, 0), 4 * 99);
        Check.due("from corner to corner by OUTER", x.distance(0, 56), 2 * 99);
        Check.due("its HOPS", x.route(0, 56, NONE), 2);
        Check.due("its first EDGE", x.route(0, 56, 0), 0);
        PlanarFlow one = greatest(0, 99, 0);
        Check.due("up, out and in again from the left all cost nothing", one.distance(28, 26), 0);
    }

    /** Three rings, one in another, each of which has to bear so much clockwise; nothing between them. */
    private static PlanarFlow whirl(int amount) {
        PlanarFlow x = greatest(0, 0, 0);
        for (int r = 0; r < 3; r++) {
            for (int k = r; k < 5 - r; k++) {
                x.bears(3 * (6 * r + k), amount, -amount);
                x.bears(3 * (6 * (5 - r) + k), -amount, amount);
                x.bears(3 * (6 * k + 5 - r) + 1, amount, -amount);
                x.bears(3 * (6 * k + r) + 1, -amount, amount);
            }
        }
        return x;
    }

    private static void distancesBelowZero() {
        PlanarFlow x = whirl(99);
        Check.due("circulates()", x.circulates(), 1);
        Check.due("inwards", x.distance(72, 28), 297);
        Check.due("outwards", x.distance(28, 72), -297);
        Check.due("potential of the middle", x.potential(28), 297);
        Check.due("around the middle", x.distance(14, 42), 0);
        PlanarFlow y = whirl(-99);
        Check.due("counterclockwise", y.distance(72, 28), -297);
        Check.due("potential of the middle", y.potential(28), -297);
    }

    // Terms: there are none, if some RING costs less than 0: one of 0 leaves them
    private static void ringOfNothingIsNoHindrance() {
        PlanarFlow x = Check.told("grid 2 2;right 0 0 99 -99;down 1 0 99 -99;right 0 1 -99 99;down 0 0 -99 99");
        Check.due("all RINGS cost 0", x.circulates(), 1);
        Check.due("potential(0)", x.potential(0), 99);
        Check.due("distance(0, 72)", x.distance(0, 72), -99);
        Check.due("route(72, 0, 0)", x.route(72, 0, 0), 0);
        x.bears(0, 98, -98);
        Check.due("a RING costs -1", x.circulates(), 0);
        Check.due("distance(0, 72)", x.distance(0, 72), THERE_ARE_NONE);
        Check.due("distance(0, 0)", x.distance(0, 0), THERE_ARE_NONE);
        Check.due("potential(72)", x.potential(72), THERE_ARE_NONE);
        Check.due("route(0, 72, -1)", x.route(0, 72, NONE), NONE);
        Check.due("route(0, 0, -1)", x.route(0, 0, NONE), NONE);
        Check.due("what the RING costs", x.ring(-2), -1);
    }

    // Promise 10: the i-th EDGE; how many (i NONE); NONE: others, none such
    private static void routesByIndex() {
        PlanarFlow x = greatest(0, 99, 99);
        int[] edges = {3 * 2, 3 * 8, 3 * 14};
        Check.due("HOPS", x.route(72, 28, NONE), 3);
        for (int i = 0; i < 3; i++) {
            Check.due("route(72, 28, " + i + ")", x.route(72, 28, i), edges[i]);
            Check.due("route(28, 72, " + i + ")", x.route(28, 72, i), edges[2 - i]);
        }
        for (int i : new int[] {-3, -2, 3, 4, 72, 1000, Integer.MIN_VALUE, Integer.MAX_VALUE}) {
            Check.due("route(72, 28, " + i + ")", x.route(72, 28, i), NONE);
        }
    }

    // Promise 10: through all cells, one row to the right, the next to the left
    private static void longestRoute() {
        PlanarFlow x = greatest(0, 99, 99);
        int[] way = new int[24];
        int hops = 0;
        for (int y = 0; y < 5; y++) {
            for (int k = 0; k < 4; k++) {
                int cell = 6 * y + (y % 2 == 0 ? k : 3 - k);
                way[hops++] = 3 * (cell + 1) + 1;
            }
            if (y < 4) {
                way[hops++] = 3 * (6 * (y + 1) + (y % 2 == 0 ? 4 : 0));
            }
        }
        for (int edge : way) {
            x.bears(edge, 0, 0);
        }
        Check.due("what it costs", x.distance(0, 56), 0);
        Check.due("HOPS", x.route(0, 56, NONE), 24);
        for (int i = 0; i < 24; i++) {
            Check.due("there: " + i, x.route(0, 56, i), way[i]);
            Check.due("back: " + i, x.route(56, 0, i), way[23 - i]);
        }
        Check.due("behind its end", x.route(0, 56, 24), NONE);
    }

    // Promise 10: through both halves of the cells of the first row
    private static void routeAslant() {
        PlanarFlow x = greatest(1, 99, 99);
        for (int k = 0; k < 5; k++) {
            x.bears(3 * k + 2, 0, 0);
            x.bears(3 * k + 1, 0, 0);
        }
        Check.due("what it costs", x.distance(72, 8), 0);
        Check.due("HOPS", x.route(72, 8, NONE), 10);
        for (int i = 0; i < 10; i++) {
            Check.due("route(72, 8, " + i + ")", x.route(72, 8, i), 3 * (i / 2) + 1 + i % 2);
        }
    }

    // Terms: HOPS the fewest crossings of such ones; at each FACE the EDGE of least number
    private static void fewestCrossings() {
        PlanarFlow x = greatest(0, 0, 0);
        Check.due("all cost nothing", x.distance(0, 56), 0);
        Check.due("by OUTER", x.route(0, 56, NONE), 2);
        Check.due("the least EDGE of a corner", x.route(0, 56, 0), 0);
        Check.due("the least EDGE of the other one", x.route(0, 56, 1), 3 * 29 + 1);
        Check.due("beside each other", x.route(0, 2, NONE), 1);
        Check.due("the EDGE between", x.route(0, 2, 0), 4);
        Check.due("to a corner of two", x.route(72, 56, 0), 3 * 29 + 1);
        PlanarFlow cheap = Check.told("grid 4 2;all 9 9;right 0 0 9 4;right 2 0 4 9;down 1 0 9 4;down 2 0 9 4");
        Check.due("both ways cost 8", cheap.distance(0, 4), 8);
        Check.due("both have two crossings", cheap.route(0, 4, NONE), 2);
        Check.due("the least number", cheap.route(0, 4, 0), 0);
    }

    // Promise 12: the DISTANCES from OUTER
    private static void potentialsAreDistances() {
        PlanarFlow x = Check.told("grid 4 4;all 5 3;slash 1 1 2 2;back 0 2 7 0;right 0 0 1 -1;down 3 2 0 8");
        Check.due("circulates()", x.circulates(), 1);
        for (int face : new int[] {0, 2, 4, 8, 10, 11, 12, 16, 17, 18, 20, 72}) {
            Check.due("potential(" + face + ")", x.potential(face), x.distance(72, face));
        }
        Check.due("of OUTER", x.potential(72), 0);
    }

    // Promise 13: two FACES
    private static void shortestRing() {
        PlanarFlow x = Check.told("grid 2 2;all 5 5;right 0 0 -6 6");
        Check.due("how many", x.ring(NONE), 2);
        Check.due("what it costs", x.ring(-2), -1);
        Check.due("both", x.ring(0) + x.ring(1), 72);
        x.bears(0, -5, 6);
        Check.due("0 is none", x.ring(NONE), -101);
    }

    // Promise 13: around a node that has to take more than it gives; OUTER has no part in it
    private static void ringWithinTheGrid() {
        PlanarFlow x = Check.told("grid 3 3;all 9 9;down 1 0 9 -1;right 0 1 9 -1;right 1 1 -1 9;down 1 1 -1 9");
        Check.due("circulates()", x.circulates(), 0);
        Check.due("how many", x.ring(NONE), 4);
        Check.due("what it costs", x.ring(-2), -4);
        // edge 4 costs -1 from 0 to 2, edge 12 from 2 to 8, edge 13 from 8 to 6, edge 9 from 6 to 0
        Map<Integer, Integer> before = Map.of(2, 0, 8, 2, 6, 8, 0, 6);
        TreeSet<Integer> faces = new TreeSet<>();
        for (int i = 0; i < 4; i++) {
            faces.add(x.ring(i));
            Check.due("the one before " + x.ring(i), x.ring((i + 1) % 4), before.getOrDefault(x.ring(i), NONE));
        }
        Check.due("all four", faces.equals(before.keySet()), true);
    }

    // Promise 13: -101: others
    private static void ringsByIndex() {
        PlanarFlow x = Check.told("grid 3 3;all 9 9;down 1 0 9 -1;right 0 1 9 -1;right 1 1 -1 9;down 1 1 -1 9");
        for (int i : new int[] {-4, -3, 4, 5, 72, 73, Integer.MIN_VALUE, Integer.MAX_VALUE}) {
            Check.due("ring(" + i + ")", x.ring(i), -101);
        }
    }

    // Promise 13: -101: there is a CIRCULATION
    private static void noRingWithCirculation() {
        PlanarFlow x = new PlanarFlow();
        for (int i : new int[] {-3, -2, -1, 0, 1, Integer.MIN_VALUE, Integer.MAX_VALUE}) {
            Check.due("ring(" + i + ")", x.ring(i), -101);
        }
        Check.due("circulates()", x.circulates(), 1);
    }

    // Promise 11: what has to be borne, and can just so
    private static void justEnoughCirculates() {
        for (int amount : new int[] {1, 50, 99}) {
            PlanarFlow x = Check.told("grid 2 2;all 0 0");
            x.bears(4, amount, 0);
            x.bears(6, 0, amount);
            x.bears(1, 0, amount);
            x.bears(0, amount, -amount);
            Check.due("just enough", x.circulates(), 1);
            Check.due("so much goes around", x.potential(0), amount);
            x.bears(6, 0, amount - 1);
            Check.due("one too little", x.circulates(), 0);
        }
    }

    // Promise 21: from s to t clockwise: one EDGE, or all but one
    private static void sharedByNeighbours() {
        PlanarFlow x = Check.told("grid 2 2;right 0 0 3 4;down 1 0 5 6;right 0 1 7 8;down 0 0 9 10");
        for (int s = 0; s < 4; s++) {
            for (int t = 0; t < 4; t++) {
                int want = s == t ? NONE : byWay(x, s, t, true) + byWay(x, s, t, false);
                Check.due("shared(" + s + ", " + t + ")", x.shared(s, t), want);
            }
        }
        Check.due("3 at once, 6 around", x.shared(0, 1), 3 + 6);
        Check.due("4 at once, 5 around", x.shared(1, 0), 4 + 5);
    }

    /** The least that the edges on one way around the four nodes bear. */
    private static int byWay(PlanarFlow x, int s, int t, boolean isClockwise) {
        int[] nodes = {0, 1, 3, 2};
        int[] edges = {0, 4, 6, 1};
        int least = 1000;
        int at = 0;
        while (nodes[at] != s) {
            at++;
        }
        while (nodes[at] != t) {
            int next = (at + (isClockwise ? 1 : 3)) % 4;
            int edge = edges[isClockwise ? at : next];
            least = Math.min(least, x.edge(edge, x.edge(edge, 0) == nodes[at] ? 2 : 3));
            at = next;
        }
        return least;
    }

    // Promise 21: NONE: not both on OUTER, one and itself
    private static void sharedOfEverySize() {
        for (int w = 2; w <= 6; w++) {
            for (int h = 2; h <= 6; h++) {
                PlanarFlow x = new PlanarFlow();
                x.grid(w, h);
                for (int node = -2; node < 40; node++) {
                    boolean on = isOnOuter(w, h, node);
                    String call = " of " + node + ", " + w + " by " + h;
                    Check.due("shared from 0" + call, x.shared(0, node), on && node != 0 ? 0 : NONE);
                    Check.due("shared to the last" + call, x.shared(node, w * h - 1),
                            on && node != w * h - 1 ? 0 : NONE);
                    Check.due("shared with itself" + call, x.shared(node, node), NONE);
                }
                Check.due("no FLOW by that", x.count(6), 0);
            }
        }
    }

    private static boolean isOnOuter(int w, int h, int node) {
        if (node < 0 || node >= w * h) {
            return false;
        }
        int x = node % w;
        int y = node / w;
        return x == 0 || y == 0 || x == w - 1 || y == h - 1;
    }

    // Promise 21: what flows most, between all pairs of the greatest grid
    private static void sharedIsTheFlow() {
        PlanarFlow x = greatest(2, 0, 0);
        for (int edge = 0; edge < 108; edge++) {
            x.bears(edge, (edge * 37 + 11) % 100 - (edge % 7 == 0 ? 3 : 0), edge * 61 % 90 + 10);
        }
        Check.due("circulates()", x.circulates(), 1);
        for (int s = 0; s < 36; s++) {
            for (int t = 0; t < 36; t++) {
                if (s != t && isOnOuter(6, 6, s) && isOnOuter(6, 6, t)) {
                    Check.due("shared(" + s + ", " + t + ")", x.shared(s, t), x.flow(s, t));
                }
            }
        }
    }

    // Promise 21: -2: no CIRCULATION; NONE first
    private static void sharedWithoutCirculation() {
        PlanarFlow x = Check.told("grid 3 3;all 1 1;right 0 0 9 -9");
        Check.due("shared(0, 8)", x.shared(0, 8), -2);
        Check.due("shared(0, 4)", x.shared(0, 4), NONE);
        Check.due("shared(4, 0)", x.shared(4, 0), NONE);
        Check.due("shared(0, 0)", x.shared(0, 0), NONE);
        Check.due("shared(0, 9)", x.shared(0, 9), NONE);
        Check.due("shared(-1, 0)", x.shared(-1, 0), NONE);
    }
}
