/** Promises 14 to 20 and 22 to 28: flows and what would be, at every boundary that the document names. */
public final class BoundsOfFlowTest {
    private static final int NONE = -1;
    private static final int NO_CIRCULATION = -2;
    /** The neighbours of node 4 of three by three, clockwise from straight up on. */
    private static final int[] CLOCKWISE = {1, 2, 5, 8, 7, 6, 3, 0};
    private static final int[] FAR = {Integer.MIN_VALUE, -2, -1, 9, 10, 35, 36, Integer.MAX_VALUE};

    public static void main(String[] args) {
        straightUpFirst();
        behindTheOneItCameBy();
        noneFurtherOn();
        pairsRefused();
        dryFlow();
        greatestFlow();
        fromAndToEveryNode();
        whatHasToBeBorne();
        leftOnEdges();
        noFlowYet();
        noSuchEdgeOrNode();
        waysOfEachKind();
        cutsByIndex();
        cutsOfOtherFlows();
        gatherBounds();
        gatherRefused();
        gatherEach();
        gatherToOneOfTheFace();
        meetNothing();
        meetTillOneOfThemEnds();
        meetSeveralWays();
        gaveBounds();
        wereAboveTheMost();
        wereOfWhatHasToBeBorne();
        wereRefused();
        countsBounds();
        worstBounds();
        noCirculation();
        Check.end("BoundsOfFlowTest");
    }

    /** Eight spokes at node 4, each bearing so much both ways, and nothing else. */
    private static PlanarFlow star(int amount) {
        PlanarFlow x = Check.told("grid 3 3;slash 0 0 0 0;back 1 0 0 0;back 0 1 0 0;slash 1 1 0 0");
        for (int edge = 0; edge < 27; edge++) {
            if (x.edge(edge, 0) == 4 || x.edge(edge, 1) == 4) {
                x.bears(edge, amount, amount);
            }
        }
        return x;
    }

    // Terms: at s: from straight up on; straight up is the first
    private static void straightUpFirst() {
        for (int given = 0; given <= 9; given++) {
            PlanarFlow x = star(1);
            for (int node : CLOCKWISE) {
                x.supply(node, -1);
            }
            x.supply(4, given);
            Check.due("4 gives " + given, x.meet(), Math.min(given, 8));
            for (int k = 0; k < 8; k++) {
                Check.due("of " + given + " comes to " + CLOCKWISE[k], x.gave(CLOCKWISE[k]), k < given ? -1 : 0);
            }
        }
    }

    // Terms: those first that come behind the one by which it was come to
    private static void behindTheOneItCameBy() {
        for (int d = 0; d < 8; d++) {
            for (int given = 1; given <= 8; given++) {
                PlanarFlow x = star(9);
                for (int node : CLOCKWISE) {
                    x.supply(node, -1);
                }
                x.supply(CLOCKWISE[d], given);
                Check.due(CLOCKWISE[d] + " gives " + given, x.meet(), Math.min(given, 7));
                for (int k = 1; k < 8; k++) {
                    int node = CLOCKWISE[(d + k) % 8];
                    Check.due("from " + CLOCKWISE[d] + " to " + node, x.gave(node), k <= given ? -1 : 0);
                }
            }
        }
    }

    // Terms: none further on: back, on with the next one
    private static void noneFurtherOn() {
        for (int node : CLOCKWISE) {
            PlanarFlow x = star(7);
            Check.due("flow(4, " + node + ")", x.flow(4, node), 7);
            Check.due("WAYS", x.ways(0), 1);
            Check.due("EDGES of the longest", x.ways(1), 1);
            Check.due("flow(" + node + ", 4)", x.flow(node, 4), 7);
            int other = node == 8 ? 0 : 8;
            Check.due("flow(" + other + ", " + node + ")", x.flow(other, node), 7);
            Check.due("by node 4", x.ways(1), 2);
        }
    }

    // Promise 14: NONE: others (one and itself): then the FLOW that was is as it was
    private static void pairsRefused() {
        PlanarFlow x = Check.told("grid 3 3;all 1 1");
        x.flow(8, 0);
        for (int far : FAR) {
            Check.due("flow(" + far + ", 0)", x.flow(far, 0), NONE);
            Check.due("flow(0, " + far + ")", x.flow(0, far), NONE);
            Check.due("flow(" + far + ", " + far + ")", x.flow(far, far), NONE);
        }
        for (int node = 0; node < 9; node++) {
            Check.due("flow(" + node + ", itself)", x.flow(node, node), NONE);
        }
        Check.due("s", x.ways(3), 8);
        Check.due("t", x.ways(4), 0);
        Check.due("what flows", x.excess(0), 2);
    }

    // Promises 14, 17: a FLOW of nothing is one all the same
    private static void dryFlow() {
        PlanarFlow x = new PlanarFlow();
        Check.due("flow(0, 1)", x.flow(0, 1), 0);
        Check.due("there is a FLOW", x.count(6), 1);
        int[] ways = {0, 0, 0, 0, 1};
        for (int what = 0; what < 5; what++) {
            Check.due("ways(" + what + ")", x.ways(what), ways[what]);
        }
        Check.due("on(0)", x.on(0), 0);
        Check.due("left(0, 0)", x.left(0, 0), 0);
        Check.due("cut(0, -1): all around s", x.cut(0, NONE), 2);
        Check.due("cut(1, -1): all around t", x.cut(1, NONE), 3);
        Check.due("cut(0, -2)", x.cut(0, -2), 0);
        Check.due("rings(0)", x.rings(0), 1);
    }

    private static PlanarFlow greatest() {
        PlanarFlow x = Check.told("grid 6 6");
        for (int n = 0; n < 36; n++) {
            // nodes 14 and 21 have eight edges each
            boolean back = n == 8 || n == 13 || n == 15 || n == 20;
            x.slant(n, back ? 2 : 1);
        }
        for (int edge = 0; edge < 108; edge++) {
            x.bears(edge, 99, 99);
        }
        return x;
    }

    // Promise 14: the most there can be
    private static void greatestFlow() {
        PlanarFlow x = greatest();
        Check.due("flow(14, 21)", x.flow(14, 21), 8 * 99);
        Check.due("excess(21)", x.excess(21), 8 * 99);
        Check.due("excess(14)", x.excess(14), -8 * 99);
        Check.due("cut(0, -2)", x.cut(0, -2), 8 * 99);
        Check.due("cut(1, -2)", x.cut(1, -2), 8 * 99);
        Check.due("a corner", x.flow(0, 21), 3 * 99);
    }

    // Promises 15, 16, 18: within what is borne; s gives, t takes, the others pass on
    private static void fromAndToEveryNode() {
        PlanarFlow x = Check.told("grid 4 3;all 5 3;slash 1 1 2 2;back 0 0 7 0;right 0 0 1 -1;down 3 1 0 8");
        for (int s = 0; s < 12; s++) {
            for (int t = 0; t < 12; t++) {
                int value = x.flow(s, t);
                for (int node = 0; node < 12 && s != t; node++) {
                    int want = node == s ? -value : node == t ? value : 0;
                    Check.due("flow(" + s + ", " + t + "): excess(" + node + ")", x.excess(node), want);
                }
                if (s != t) {
                    within(x, "flow(" + s + ", " + t + ")");
                }
            }
        }
    }

    private static void within(PlanarFlow x, String flow) {
        for (int edge = 0; edge < 36; edge++) {
            if (x.edge(edge, 0) >= 0) {
                Check.due(flow + ": LEFT FORTH", x.left(edge, 0), x.edge(edge, 2) - x.on(edge));
                Check.due(flow + ": LEFT BACK", x.left(edge, 1), x.edge(edge, 3) + x.on(edge));
                Check.due(flow + ": none below 0", Math.min(x.left(edge, 0), x.left(edge, 1)) >= 0, true);
            }
        }
    }

    // Terms: no less than -BACK: an edge that has to bear just so much does
    private static void whatHasToBeBorne() {
        PlanarFlow x = Check.told("grid 2 2;all 99 99;right 0 0 99 -99");
        for (int s = 0; s < 4; s++) {
            for (int t = 0; t < 4; t++) {
                if (s != t) {
                    x.flow(s, t);
                    Check.due("flow(" + s + ", " + t + "): on(0)", x.on(0), 99);
                    Check.due("left(0, 0)", x.left(0, 0), 0);
                    Check.due("left(0, 1)", x.left(0, 1), 0);
                }
            }
        }
        Check.due("flow(0, 1): besides what has to be", x.flow(0, 1), 99 + 99);
        Check.due("flow(1, 0): no more than what has to be", x.flow(1, 0), 99 - 99);
    }

    // Promise 16: all that an edge bears both ways may be LEFT one way
    private static void leftOnEdges() {
        PlanarFlow x = Check.told("grid 2 2;all 99 99");
        Check.due("flow(0, 3)", x.flow(0, 3), 198);
        Check.due("left(0, 0)", x.left(0, 0), 0);
        Check.due("left(0, 1)", x.left(0, 1), 198);
        Check.due("left(1, 1)", x.left(1, 1), 198);
        for (int way : new int[] {-2, -1, 2, 3, Integer.MIN_VALUE, Integer.MAX_VALUE}) {
            Check.throwsNoSuch("left(0, " + way + ")", () -> x.left(0, way));
        }
    }

    // Promises 15 to 20, 25: no FLOW
    private static void noFlowYet() {
        PlanarFlow x = new PlanarFlow();
        Check.throwsNoSuch("on(0)", () -> x.on(0));
        Check.throwsNoSuch("left(0, 0)", () -> x.left(0, 0));
        Check.throwsNoSuch("left(0, 1)", () -> x.left(0, 1));
        Check.throwsNoSuch("excess(0)", () -> x.excess(0));
        for (int what = -1; what <= 5; what++) {
            Check.due("ways(" + what + ")", x.ways(what), NONE);
        }
        for (int i = -3; i <= 1; i++) {
            Check.due("cut(0, " + i + ")", x.cut(0, i), -101);
            Check.due("cut(1, " + i + ")", x.cut(1, i), -101);
        }
        Check.due("rings(0)", x.rings(0), NONE);
        Check.due("rings(1)", x.rings(1), NONE);
        Check.due("gave(0)", x.gave(0), -101);
        Check.due("count(6)", x.count(6), 0);
    }

    // Promises 15, 16, 18: no such EDGE, no such NODE
    private static void noSuchEdgeOrNode() {
        PlanarFlow x = Check.told("grid 3 3;slash 0 0 1 1");
        x.flow(0, 8);
        int[] edges = {-1, 5, 6, 8, 11, 14, 15, 19, 22, 24, 25, 26, 27, 107, 108, Integer.MIN_VALUE, Integer.MAX_VALUE};
        for (int edge : edges) {
            Check.throwsNoSuch("on(" + edge + ")", () -> x.on(edge));
            Check.throwsNoSuch("left(" + edge + ", 0)", () -> x.left(edge, 0));
            Check.throwsNoSuch("left(" + edge + ", 1)", () -> x.left(edge, 1));
        }
        for (int node : FAR) {
            Check.throwsNoSuch("excess(" + node + ")", () -> x.excess(node));
        }
        Check.due("on(2): aslant is one", x.on(2), 0);
        Check.due("on(21): the last one", x.on(21), 0);
        Check.due("left(2, 1): aslant is one", x.left(2, 1), 1);
        Check.due("excess(8): the last one", x.excess(8), 0);
    }

    // Promise 17: s (NONE: GATHERED, MET), t (NONE: MET); NONE: others
    private static void waysOfEachKind() {
        PlanarFlow x = Check.told("grid 2 2;all 5 5");
        x.supply(0, 3);
        x.supply(3, -3);
        int[][] due = {{1, 2, 10, 0, 3}, {2, 3, 3, NONE, 3}, {1, 2, 3, NONE, NONE}};
        for (int kind = 0; kind < 3; kind++) {
            int value = kind == 0 ? x.flow(0, 3) : kind == 1 ? x.gather(0, 3, 7) : x.meet();
            Check.due("kind " + kind, value, kind < 2 ? 10 : 3);
            for (int what = 0; what < 5; what++) {
                Check.due("kind " + kind + ": ways(" + what + ")", x.ways(what), due[kind][what]);
            }
            for (int what : new int[] {-2, -1, 5, 6, Integer.MIN_VALUE, Integer.MAX_VALUE}) {
                Check.due("kind " + kind + ": ways(" + what + ")", x.ways(what), NONE);
            }
        }
    }

    // Promise 19: the i-th EDGE; how many (i NONE); what they bear (i -2); -101: others, none such
    private static void cutsByIndex() {
        PlanarFlow x = greatest();
        x.flow(14, 21);
        int[] edges = {23, 25, 26, 39, 41, 42, 43, 44};
        Check.due("how many", x.cut(0, NONE), 8);
        for (int i = 0; i < 8; i++) {
            Check.due("cut(0, " + i + ")", x.cut(0, i), edges[i]);
        }
        for (int i : new int[] {-4, -3, 8, 9, 107, 108, Integer.MIN_VALUE, Integer.MAX_VALUE}) {
            Check.due("cut(0, " + i + ")", x.cut(0, i), -101);
        }
        for (int side : new int[] {-2, -1, 2, 3, Integer.MIN_VALUE, Integer.MAX_VALUE}) {
            for (int i = -3; i <= 1; i++) {
                Check.due("cut(" + side + ", " + i + ")", x.cut(side, i), -101);
            }
            Check.due("rings(" + side + ")", x.rings(side), NONE);
        }
    }

    // Promises 19, 20: the latest is GATHERED, MET
    private static void cutsOfOtherFlows() {
        PlanarFlow x = Check.told("grid 2 2;all 5 5");
        for (int kind = 0; kind < 2; kind++) {
            x.flow(0, 3);
            Check.due("of flow()", x.rings(0) + x.rings(1), 2);
            int given = kind == 0 ? x.gather(72, 3, 1) : x.meet();
            Check.due("how much", given, kind == 0 ? 3 : 0);
            for (int side = 0; side < 2; side++) {
                Check.due("rings(" + side + ")", x.rings(side), NONE);
                for (int i = -2; i <= 1; i++) {
                    Check.due("cut(" + side + ", " + i + ")", x.cut(side, i), -101);
                }
            }
        }
    }

    // Promise 22: EACH 1 to 999
    private static void gatherBounds() {
        PlanarFlow x = Check.told("grid 2 2;all 99 99");
        Check.due("each 1", x.gather(0, 3, 1), 3);
        Check.due("each 999", x.gather(0, 3, 999), 198);
        for (int each : new int[] {Integer.MIN_VALUE, -1, 0, 1000, 1001, Integer.MAX_VALUE}) {
            Check.due("each " + each, x.gather(0, 3, each), NONE);
        }
        Check.due("refused: the FLOW is as it was", x.gave(3), -198);
    }

    // Promise 22: NONE: others, no such FACE
    private static void gatherRefused() {
        PlanarFlow x = Check.told("grid 3 3;all 1 1;slash 0 0 1 1");
        x.gather(1, 8, 2);
        int was = x.gave(8);
        for (int face : new int[] {-1, 3, 4, 5, 7, 9, 10, 71, 73, Integer.MIN_VALUE, Integer.MAX_VALUE}) {
            Check.due("gather(" + face + ", 0, 1)", x.gather(face, 0, 1), NONE);
        }
        for (int node : FAR) {
            Check.due("gather(0, " + node + ", 1)", x.gather(0, node, 1), NONE);
        }
        Check.due("refused: the FLOW is as it was", x.gave(8), was);
        Check.due("refused: t", x.ways(4), 8);
    }

    // Terms: each EACH at most, the last of its WAYS by what is left of that
    private static void gatherEach() {
        for (int each = 1; each <= 999; each += each < 12 ? 1 : 141) {
            PlanarFlow x = Check.told("grid 2 2;right 0 0 4 0;down 1 0 99 0;down 0 0 3 0;right 0 1 99 0");
            int first = Math.min(each, 7);
            int second = Math.min(each, 99 - Math.min(4, first));
            int third = Math.min(each, 99 - (first - Math.min(4, first)));
            Check.due("gather(0, 3, " + each + ")", x.gather(0, 3, each), first + second + third);
            int[] gave = {first, second, third, -first - second - third};
            for (int node = 0; node < 4; node++) {
                Check.due("gave(" + node + ") of " + each, x.gave(node), gave[node]);
                Check.due("excess(" + node + ") of " + each, x.excess(node), -gave[node]);
            }
            Check.due("the last by what is left", x.ways(2), each <= 4 ? each : Math.min(each - 4, 3));
        }
        PlanarFlow all = greatest();
        Check.due("eight edges bear more than that", all.gather(28, 21, 700), 792);
        Check.due("gave(14)", all.gave(14), 700);
        Check.due("gave(15)", all.gave(15), 92);
    }

    // Terms: from NODES of a FACE (but t)
    private static void gatherToOneOfTheFace() {
        PlanarFlow x = Check.told("grid 3 3;all 1 1;slash 0 0 1 1");
        for (int t = 0; t < 9; t++) {
            for (int face : new int[] {0, 1, 2, 6, 8, 72}) {
                int sum = x.gather(face, t, 1);
                int given = 0;
                for (int node = 0; node < 9; node++) {
                    boolean gives = node != t && isAt(x, node, face);
                    Check.due("who does not give", x.gave(node) > 0 && !gives, false);
                    given += Math.max(0, x.gave(node));
                }
                Check.due("gather(" + face + ", " + t + ", 1)", sum, given);
                Check.due("what t took", x.gave(t), -sum);
            }
        }
    }

    private static boolean isAt(PlanarFlow x, int node, int face) {
        for (int edge = 0; edge < 27; edge++) {
            boolean ends = x.edge(edge, 0) == node || x.edge(edge, 1) == node;
            if (ends && (x.edge(edge, 4) == face || x.edge(edge, 5) == face)) {
                return true;
            }
        }
        return false;
    }

    // Promise 24: nobody gives, nobody takes, nothing can flow
    private static void meetNothing() {
        PlanarFlow x = Check.told("grid 2 2;all 5 5");
        Check.due("nobody gives or takes", x.meet(), 0);
        Check.due("the CIRCULATION first", x.on(0), 5);
        x.supply(0, 7);
        Check.due("nobody takes", x.meet(), 0);
        x.supply(0, -7);
        Check.due("nobody gives", x.meet(), 0);
        x.supply(3, 7);
        x.grid(2, 2);
        x.supply(3, 7);
        x.supply(0, -7);
        Check.due("nothing can flow", x.meet(), 0);
        Check.due("gave(3)", x.gave(3), 0);
        Check.due("a FLOW all the same", x.count(6), 1);
    }

    // Terms: till it gives nothing more, or there is none
    private static void meetTillOneOfThemEnds() {
        int[][] due = {{99, -99, 50, 50}, {10, -99, 50, 10}, {99, -10, 50, 10}, {99, -99, 99, 99}, {1, -1, 50, 1}};
        for (int[] row : due) {
            PlanarFlow x = Check.told("grid 2 2;right 0 0 99 99");
            x.bears(0, row[2], row[2]);
            x.supply(0, row[0]);
            x.supply(1, row[1]);
            Check.due("meet()", x.meet(), row[3]);
            Check.due("gave(0)", x.gave(0), row[3]);
            Check.due("gave(1)", x.gave(1), -row[3]);
            Check.due("SUPPLY is as it was", x.count(8), row[0]);
        }
    }

    // Terms: by numbers; each to the first NODE come to that takes something still
    private static void meetSeveralWays() {
        PlanarFlow x = Check.told("grid 3 2;right 0 0 9 0;right 1 0 9 0");
        x.supply(0, 5);
        x.supply(1, -2);
        x.supply(2, -2);
        Check.due("meet()", x.meet(), 4);
        int[] ways = {2, 2, 2, NONE, NONE};
        for (int what = 0; what < 5; what++) {
            Check.due("ways(" + what + ")", x.ways(what), ways[what]);
        }
        Check.due("gave(0)", x.gave(0), 4);
        x.supply(1, 5);
        Check.due("the first gives first", x.meet(), 2);
        Check.due("gave(0)", x.gave(0), 2);
        Check.due("gave(1)", x.gave(1), 0);
    }

    // Promise 25: -101: no such NODE, the latest FLOW is of flow(), none
    private static void gaveBounds() {
        PlanarFlow x = Check.told("grid 3 3;all 1 1");
        for (int kind = 0; kind < 2; kind++) {
            Check.due("how much", kind == 0 ? x.gather(0, 8, 1) : x.meet(), kind == 0 ? 2 : 0);
            for (int node : FAR) {
                Check.due("gave(" + node + ")", x.gave(node), -101);
            }
            Check.due("gave(8)", x.gave(8), kind == 0 ? -2 : 0);
            x.flow(0, 8);
            Check.due("of flow(): gave(8)", x.gave(8), -101);
        }
        x.meet();
        x.bears(0, 1, 1);
        Check.due("none: gave(8)", x.gave(8), -101);
    }

    // Promise 26: 1 more FORTH (1), BACK (2; also above 99)
    private static void wereAboveTheMost() {
        PlanarFlow x = Check.told("grid 2 2;right 0 0 99 99");
        Check.due("now", x.flow(0, 1), 99);
        Check.due("1 more FORTH", x.were(0, 1, 0, 1), 100);
        Check.due("1 more BACK", x.were(0, 2, 1, 0), 100);
        Check.due("1 more BACK is no more FORTH", x.were(0, 2, 0, 1), 99);
        Check.due("0, 0", x.were(0, 0, 0, 1), 0);
        Check.due("counts(1, 0, 1): above 99 too", x.counts(1, 0, 1), 1);
        Check.due("nothing is another one: FORTH", x.edge(0, 2), 99);
        Check.due("nothing is another one: BACK", x.edge(0, 3), 99);
        Check.due("nothing is another one: the FLOW", x.ways(4), 1);
    }

    // Promise 26: -2: no CIRCULATION then
    private static void wereOfWhatHasToBeBorne() {
        PlanarFlow x = Check.told("grid 2 2;right 0 0 3 -3;down 1 0 3 0;right 0 1 0 3;down 0 0 0 3");
        Check.due("now", x.flow(1, 0), 0);
        Check.due("without the way back", x.were(4, 0, 1, 0), NO_CIRCULATION);
        Check.due("without what has to be", x.were(0, 0, 1, 0), 3);
        Check.due("1 less has to be", x.were(0, 2, 1, 0), 1);
        x.bears(4, 2, 0);
        Check.due("none now", x.flow(1, 0), NO_CIRCULATION);
        Check.due("1 more FORTH elsewhere", x.were(6, 1, 1, 0), NO_CIRCULATION);
        Check.due("1 more FORTH where it lacks", x.were(4, 1, 1, 0), 0);
        Check.due("1 less has to be", x.were(0, 2, 1, 0), 0);
        Check.due("nothing has to be", x.were(0, 0, 1, 0), 2);
        Check.due("no CIRCULATION still", x.circulates(), 0);
    }

    // Promise 26: NONE: others, also where there is no CIRCULATION
    private static void wereRefused() {
        PlanarFlow calm = Check.told("grid 3 3;all 1 1");
        PlanarFlow torn = Check.told("grid 3 3;all 1 1;right 0 0 9 -9");
        for (PlanarFlow x : new PlanarFlow[] {calm, torn}) {
            for (int edge : new int[] {-1, 2, 6, 19, 24, 27, 107, 108, Integer.MIN_VALUE, Integer.MAX_VALUE}) {
                Check.due("were(" + edge + ", 0, 0, 1)", x.were(edge, 0, 0, 1), NONE);
            }
            for (int what : new int[] {-2, -1, 3, 4, Integer.MIN_VALUE, Integer.MAX_VALUE}) {
                Check.due("were(0, " + what + ", 0, 1)", x.were(0, what, 0, 1), NONE);
            }
            for (int node : FAR) {
                Check.due("were(0, 0, " + node + ", 1)", x.were(0, 0, node, 1), NONE);
                Check.due("were(0, 0, 1, " + node + ")", x.were(0, 0, 1, node), NONE);
            }
            Check.due("were(0, 0, 4, 4)", x.were(0, 0, 4, 4), NONE);
        }
    }

    // Promise 27
    private static void countsBounds() {
        PlanarFlow x = Check.told("grid 2 2;right 0 0 3 -3;down 1 0 3 0;right 0 1 0 3;down 0 0 0 3");
        Check.due("no CIRCULATION without three of them", x.counts(0, 1, 0), 3);
        Check.due("less without the fourth too", x.counts(0, 0, 3), 4);
        Check.due("only the one between", x.counts(1, 0, 1), 1);
        for (int what : new int[] {-2, -1, 2, 3, Integer.MIN_VALUE, Integer.MAX_VALUE}) {
            Check.due("counts(" + what + ", 0, 1)", x.counts(what, 0, 1), NONE);
        }
        for (int node : new int[] {-1, 4, 36, Integer.MIN_VALUE, Integer.MAX_VALUE}) {
            Check.due("counts(0, " + node + ", 1)", x.counts(0, node, 1), NONE);
            Check.due("counts(1, 1, " + node + ")", x.counts(1, 1, node), NONE);
        }
        Check.due("counts(0, 2, 2)", x.counts(0, 2, 2), NONE);
        PlanarFlow all = Check.told("grid 2 2;all 1 1");
        Check.due("each of all", all.counts(0, 0, 3), 4);
        Check.due("none of all alone", all.counts(1, 0, 3), 0);
        PlanarFlow dry = new PlanarFlow();
        Check.due("nothing to lose", dry.counts(0, 0, 8), 0);
        Check.due("the one between", dry.counts(1, 0, 1), 1);
        Check.due("none alone", dry.counts(1, 0, 8), 0);
        Check.due("no FLOW by that", dry.count(6), 0);
    }

    // Promise 28: of several the first; not s itself; NONE: others
    private static void worstBounds() {
        PlanarFlow x = new PlanarFlow();
        for (int s = 0; s < 9; s++) {
            Check.due("worst(" + s + ", 0)", x.worst(s, 0), s == 0 ? 1 : 0);
            Check.due("worst(" + s + ", 1)", x.worst(s, 1), 0);
        }
        for (int s : FAR) {
            Check.due("worst(" + s + ", 0)", x.worst(s, 0), NONE);
            Check.due("worst(" + s + ", 1)", x.worst(s, 1), NONE);
        }
        for (int what : new int[] {-2, -1, 2, 3, Integer.MIN_VALUE, Integer.MAX_VALUE}) {
            Check.due("worst(0, " + what + ")", x.worst(0, what), NONE);
        }
        Check.due("no FLOW by that", x.count(6), 0);
        PlanarFlow all = greatest();
        Check.due("the corner with two edges", all.worst(7, 0), 5);
        Check.due("what comes there", all.worst(7, 1), 2 * 99);
        Check.due("from the first corner", all.worst(0, 0), 5);
        PlanarFlow last = Check.told("grid 2 2;all 9 9;down 1 0 9 9;right 0 1 1 9;down 1 0 1 9");
        Check.due("the last one", last.worst(0, 0), 3);
        Check.due("what comes there", last.worst(0, 1), 2);
    }

    // Promises 14, 21, 22, 24, 27, 28: -2: no CIRCULATION
    private static void noCirculation() {
        PlanarFlow x = Check.told("grid 3 3;all 1 1;right 0 0 9 -9");
        x.supply(0, 1);
        x.supply(8, -1);
        Check.due("flow(0, 8)", x.flow(0, 8), NO_CIRCULATION);
        Check.due("shared(0, 8)", x.shared(0, 8), NO_CIRCULATION);
        Check.due("gather(0, 8, 1)", x.gather(0, 8, 1), NO_CIRCULATION);
        Check.due("meet()", x.meet(), NO_CIRCULATION);
        Check.due("were(3, 0, 0, 8)", x.were(3, 0, 0, 8), NO_CIRCULATION);
        Check.due("counts(0, 0, 8)", x.counts(0, 0, 8), NO_CIRCULATION);
        Check.due("counts(1, 0, 8)", x.counts(1, 0, 8), NO_CIRCULATION);
        Check.due("worst(0, 0)", x.worst(0, 0), NO_CIRCULATION);
        Check.due("worst(0, 1)", x.worst(0, 1), NO_CIRCULATION);
        Check.noFlow("no CIRCULATION", x);
        Check.due("flow(0, 0)", x.flow(0, 0), NONE);
        Check.due("gather(0, 8, 0)", x.gather(0, 8, 0), NONE);
        Check.due("gather(1, 8, 1)", x.gather(1, 8, 1), NONE);
        Check.due("gather(0, 9, 1)", x.gather(0, 9, 1), NONE);
        Check.due("counts(2, 0, 8)", x.counts(2, 0, 8), NONE);
        Check.due("worst(9, 0)", x.worst(9, 0), NONE);
    }
}
