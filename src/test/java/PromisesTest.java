/** The promises one by one, on grids small enough to be worked out by hand. */
public final class PromisesTest {
    public static void main(String[] args) {
        newObject();
        feed();
        textShapes();
        textState();
        grid();
        slant();
        bears();
        edge();
        around();
        distance();
        route();
        circulates();
        ring();
        flow();
        longestWay();
        questionsOfFlow();
        cut();
        rings();
        shared();
        gather();
        supplyAndMeet();
        were();
        counts();
        worst();
        images();
        count();
        Check.end("PromisesTest");
    }

    // Promise 1
    private static void newObject() {
        PlanarFlow x = new PlanarFlow();
        int[] at = {3, 3, 12, 5, 0, 0, 0, 0, 0, 0};
        for (int what = 0; what < at.length; what++) {
            Check.due("new: count(" + what + ")", x.count(what), at[what]);
        }
        Check.due("new: circulates()", x.circulates(), 1);
        Check.due("new: back(0)", x.back(0), false);
        Check.due("NONE", PlanarFlow.NONE, -1);
        Check.noFlow("new", x);
    }

    // Promise 2
    private static void feed() {
        PlanarFlow x = new PlanarFlow();
        for (int times = 1; times <= 30; times++) {
            Check.due("feed " + times, x.feed(0x20202020, 0x20202020, 0x20202020, 0x20202020, 0x20202020), 20 * times);
        }
        Check.due("feed beyond 600", x.feed(0, 0, 0, 0, 0), -1);
        Check.due("count(7)", x.count(7), 600);
        Check.due("600 blanks: fault at the end", x.text(600), Check.fault(600, 1));
        // "grid 4 2" with the highest byte of each number first, then bytes that begin no token
        Check.due("feed", x.feed(0x67726964, 0x20342032, -1, 0x80000000, 0), 20);
        Check.due("text(8)", x.text(8), 0);
        Check.due("w", x.count(0), 4);
        Check.due("h", x.count(1), 2);
        x.flow(0, 1);
        x.feed(0x67726964, 0x20342032, -1, 0, 0);
        Check.due("a flow stays while bytes come", x.count(6), 1);
        Check.due("a byte above 127 begins no token", x.text(9), Check.fault(8, 1));
    }

    // Promise 3: TOKENS, the grammar and FAULTS
    private static void textShapes() {
        says("grid 3 2", 0);
        says("grid3 2;all 1 1", 1);
        says(" \n grid\n2 2 ; all 5-5 \n", 1);
        says("grid 003 006;all -0 00", 1);
        says("grid 3 3;all 99 -99;all -99 99", 2);
        says("grid 3 3;right 1 2 1 1;down 2 1 1 1;slash 1 1 1 1;back 0 0 1 1", 4);
        says("", Check.fault(0, 1));
        says("  ", Check.fault(2, 1));
        says("grid", Check.fault(4, 1));
        says("grid 3 ", Check.fault(7, 1));
        says("grid 3 3;", Check.fault(9, 1));
        says("grid 3 3 ; \n", Check.fault(12, 1));
        says("all 1 1", Check.fault(0, 1));
        says("Grid 3 3", Check.fault(0, 1));
        says("gridd 3 3", Check.fault(0, 1));
        says("gri 3 3", Check.fault(0, 1));
        says("grid\t3 3", Check.fault(4, 1));
        says("grid a 3", Check.fault(5, 1));
        says("grid 1 3", Check.fault(5, 2));
        says("grid 7 3", Check.fault(5, 2));
        says("grid 3 1", Check.fault(7, 2));
        says("grid 3 7", Check.fault(7, 2));
        says("grid 3-3", Check.fault(6, 2));
        says("grid 0003 3", Check.fault(5, 1));
        says("grid 3 -1234", Check.fault(7, 1));
        says("grid - 3 3", Check.fault(5, 1));
        says("grid 3 3 3", Check.fault(9, 1));
        says("grid 3 3 all 1 1", Check.fault(9, 1));
        says("grid 3 3;;all 1 1", Check.fault(9, 1));
        says("grid 3 3;grid 3 3", Check.fault(9, 1));
        says("grid 3 3;rigth 0 0 1 1", Check.fault(9, 1));
        says("grid 3 3;allz 1 1", Check.fault(9, 1));
        says("grid 3 3;all 1 1 1", Check.fault(17, 1));
        says("grid 3 3;all 1", Check.fault(14, 1));
        says("grid 3 3;all --1 1", Check.fault(13, 1));
        says("grid 3 3;all 1 ;", Check.fault(15, 1));
    }

    private static void says(String text, int want) {
        PlanarFlow x = new PlanarFlow();
        Check.due("text <" + text + ">", Check.tell(x, text), want);
        Check.due("the tape is empty behind <" + text + ">", x.count(7), 0);
    }

    // Promise 3: WHOLES out of bounds, and what stays
    private static void textState() {
        says("grid 3 3;all 100 0", Check.fault(13, 2));
        says("grid 3 3;all 0 100", Check.fault(15, 2));
        says("grid 3 3;all 99 -100", Check.fault(16, 2));
        says("grid 3 3;all -5 4", Check.fault(16, 2));
        says("grid 3 3;right 2 0 1 1", Check.fault(15, 2));
        says("grid 3 3;right 2 3 1 1", Check.fault(15, 2));
        says("grid 3 3;right 1 3 1 1", Check.fault(17, 2));
        says("grid 3 3;right -1 0 1 1", Check.fault(15, 2));
        says("grid 3 3;right 2", Check.fault(15, 2));
        says("grid 3 3;down 3 0 1 1", Check.fault(14, 2));
        says("grid 3 3;down 2 2 1 1", Check.fault(16, 2));
        says("grid 3 3;slash 2 0 1 1", Check.fault(15, 2));
        says("grid 3 3;back 0 2 1 1", Check.fault(16, 2));
        says("grid 3 3;back 0 1 1 -2", Check.fault(20, 2));

        PlanarFlow x = Check.told("grid 2 3;slash 0 0 3 3;all 2 1;back 0 1 9 -1;down 1 0 5 0;slash 0 1 7 7");
        Check.due("all: edges that are there then", x.edge(2, 2), 2);
        Check.due("down 1 0", x.edge(4, 2), 5);
        Check.due("the later one counts", x.edge(8, 1), 5);
        Check.due("the later one counts", x.edge(8, 2), 7);
        x.supply(0, 7);
        x.image(1);
        x.flow(0, 5);
        Check.due("n below 0", x.text(-1), -1);
        Check.feed(x, "grid 2 2;all 1 x");
        Check.due("more than the tape has", x.text(21), -1);
        Check.due("THE TAPE stays", x.count(7), 20);
        Check.due("a fault", x.text(16), Check.fault(15, 1));
        Check.due("all else stays: w", x.count(0), 2);
        Check.due("all else stays: h", x.count(1), 3);
        Check.due("all else stays: FLOW", x.count(6), 1);
        Check.due("all else stays: SUPPLY", x.count(8), 7);
        Check.due("all else stays: BEARS", x.edge(4, 2), 5);
        Check.due("a text", Check.tell(x, "grid 2 3"), 0);
        Check.due("else as at first: BEARS", x.count(5), 0);
        Check.due("else as at first: aslant", x.count(4), 0);
        Check.due("else as at first: SUPPLY", x.count(8), 0);
        Check.noFlow("text", x);
        Check.due("images stay", x.back(1), true);
        Check.due("images stay", x.edge(4, 2), 5);
    }

    // Promise 4
    private static void grid() {
        PlanarFlow x = new PlanarFlow();
        Check.due("grid(2, 2)", x.grid(2, 2), 4);
        Check.due("grid(6, 6)", x.grid(6, 6), 60);
        Check.due("grid(6, 2)", x.grid(6, 2), 16);
        Check.due("w", x.count(0), 6);
        x.slant(0, 1);
        x.bears(2, 4, 4);
        x.bears(0, 4, 4);
        x.supply(3, -5);
        x.flow(0, 3);
        int[][] wrong = {{1, 3}, {3, 1}, {7, 3}, {3, 7}, {-3, -3}, {Integer.MAX_VALUE, 3}};
        for (int[] pair : wrong) {
            Check.due("grid(" + pair[0] + ", " + pair[1] + ")", x.grid(pair[0], pair[1]), -1);
        }
        Check.due("refused: all stays", x.count(5), 16);
        Check.due("refused: FLOW stays", x.count(6), 1);
        Check.due("grid(6, 2) again", x.grid(6, 2), 16);
        Check.due("as at first: aslant", x.count(4), 0);
        Check.due("as at first: BEARS", x.count(5), 0);
        Check.due("as at first: SUPPLY", x.count(9), 0);
        Check.noFlow("grid", x);
    }

    // Promise 5
    private static void slant() {
        PlanarFlow x = new PlanarFlow();
        x.flow(0, 8);
        int[][] wrong = {{2, 1}, {6, 1}, {8, 1}, {9, 1}, {36, 1}, {-1, 1}, {0, 3}, {0, -1},
            {Integer.MAX_VALUE, 0}};
        for (int[] pair : wrong) {
            Check.due("slant(" + pair[0] + ", " + pair[1] + ")", x.slant(pair[0], pair[1]), -1);
        }
        Check.due("refused: FLOW stays", x.count(6), 1);
        Check.due("slant(4, 1)", x.slant(4, 1), 0);
        Check.noFlow("slant", x);
        Check.due("bears(14, 3, 4)", x.bears(14, 3, 4), true);
        Check.due("slant(4, 1) again", x.slant(4, 1), 1);
        Check.due("its BEARS 0, 0", x.edge(14, 2), 0);
        Check.due("its BEARS 0, 0", x.edge(14, 3), 0);
        Check.due("slant(4, 2)", x.slant(4, 2), 1);
        Check.due("slant(4, 0)", x.slant(4, 0), 2);
        Check.due("none", x.edge(14, 0), -101);
    }

    // Promise 6
    private static void bears() {
        PlanarFlow x = new PlanarFlow();
        x.flow(0, 8);
        int[][] wrong = {{2, 1, 1}, {6, 1, 1}, {19, 1, 1}, {24, 1, 1}, {-1, 1, 1}, {0, 100, 0}, {0, 0, 100},
            {0, -100, 100}, {0, 99, -100}, {0, -1, 0}, {0, 3, -4}, {108, 0, 0}, {0, Integer.MIN_VALUE, 1}};
        for (int[] three : wrong) {
            Check.due("bears " + three[0] + " " + three[1] + " " + three[2],
                    x.bears(three[0], three[1], three[2]), false);
        }
        Check.due("refused: FLOW stays", x.count(6), 1);
        Check.due("bears(0, 99, -99)", x.bears(0, 99, -99), true);
        Check.noFlow("bears", x);
        Check.due("FORTH", x.edge(0, 2), 99);
        Check.due("BACK", x.edge(0, 3), -99);
        Check.due("bears(21, -99, 99)", x.bears(21, -99, 99), true);
        Check.due("bears(0, 99, 99)", x.bears(0, 99, 99), true);
    }

    // Promise 7
    private static void edge() {
        PlanarFlow x = Check.told("grid 3 3;slash 1 0 1 2;back 0 1 3 4");
        int[][] rows = {{0, 0, 1, 0, 0, 72, 0}, {3, 1, 2, 0, 0, 72, 2}, {4, 1, 4, 0, 0, 3, 0}, {5, 1, 5, 1, 2, 2, 3},
            {7, 2, 5, 0, 0, 72, 2}, {9, 3, 4, 0, 0, 0, 6}, {11, 4, 6, 3, 4, 7, 6}, {12, 4, 5, 0, 0, 3, 8},
            {10, 3, 6, 0, 0, 6, 72}, {13, 4, 7, 0, 0, 8, 7}, {18, 6, 7, 0, 0, 7, 72}, {21, 7, 8, 0, 0, 8, 72}};
        for (int[] row : rows) {
            for (int what = 0; what < 6; what++) {
                Check.due("edge(" + row[0] + ", " + what + ")", x.edge(row[0], what), row[1 + what]);
            }
        }
        int[][] wrong = {{0, 6}, {0, -1}, {2, 0}, {6, 0}, {25, 0}, {-1, 0}, {107, 0}, {108, 0}, {Integer.MIN_VALUE, 0}};
        for (int[] pair : wrong) {
            Check.due("edge(" + pair[0] + ", " + pair[1] + ")", x.edge(pair[0], pair[1]), -101);
        }
    }

    // Promise 8
    private static void around() {
        PlanarFlow x = Check.told("grid 4 3;slash 1 0 1 1");
        Check.due("around(0)", x.around(0), 4);
        Check.due("around(2)", x.around(2), 3);
        Check.due("around(3)", x.around(3), 3);
        Check.due("around(72)", x.around(72), 10);
        for (int face : new int[] {1, 5, 6, 7, 16, 71, 73, -1, Integer.MIN_VALUE, Integer.MAX_VALUE}) {
            Check.throwsNoSuch("around(" + face + ")", () -> x.around(face));
        }
    }

    // Promise 9
    private static void distance() {
        PlanarFlow x = Check.told("grid 3 3;all 3 3;right 0 0 3 9");
        Check.due("distance(0, 8)", x.distance(0, 8), 6);
        Check.due("distance(0, 0)", x.distance(0, 0), 0);
        x.bears(4, 1, 20);
        Check.due("from left to right costs FORTH", x.distance(2, 0), 1);
        Check.due("from right to left BACK; round it", x.distance(0, 2), 6);
        x.bears(4, -3, 20);
        Check.due("below 0", x.distance(2, 0), -3);
        Check.throwsNoSuch("distance(1, 0)", () -> x.distance(1, 0));
        Check.throwsNoSuch("distance(0, 4)", () -> x.distance(0, 4));
        Check.throwsNoSuch("distance(-1, 0)", () -> x.distance(-1, 0));
        Check.throwsNoSuch("distance(0, 73)", () -> x.distance(0, 73));
        x.bears(4, -9, 20);
        Check.due("a RING below 0", x.distance(0, 0), -100000);
        Check.due("a RING below 0", x.distance(72, 8), -100000);
        Check.throwsNoSuch("no such face, and a RING", () -> x.distance(72, 73));
    }

    // Promise 10
    private static void route() {
        PlanarFlow x = Check.told("grid 3 3;all 3 3");
        Check.due("HOPS", x.route(0, 8, -1), 2);
        Check.due("the least number", x.route(0, 8, 0), 0);
        Check.due("the least number", x.route(0, 8, 1), 16);
        Check.due("none such", x.route(0, 8, 2), -1);
        x.bears(0, 3, 9);
        Check.due("of least cost alone", x.route(0, 8, 0), 1);
        Check.due("itself", x.route(8, 8, -1), 0);
        Check.due("itself", x.route(8, 8, 0), -1);
        for (int i : new int[] {-2, -3, 99, Integer.MIN_VALUE, Integer.MAX_VALUE}) {
            Check.due("route(0, 8, " + i + ")", x.route(0, 8, i), -1);
        }
        Check.due("no such FACE", x.route(1, 8, -1), -1);
        Check.due("no such FACE", x.route(0, 73, -1), -1);
        PlanarFlow longer = Check.told("grid 4 2;all 9 9;down 1 0 0 0;down 2 0 0 0;right 0 0 9 0;right 2 0 0 9");
        Check.due("two ways cost nothing, the shorter one is it", longer.route(0, 4, -1), 2);
        Check.due("two ways cost nothing, the least number is it", longer.route(0, 4, 0), 0);
        Check.due("on from OUTER", longer.route(0, 4, 1), 6);
        x.bears(4, -9, 20);
        Check.due("there are none", x.route(0, 8, -1), -1);
    }

    // Promises 11, 12
    private static void circulates() {
        PlanarFlow x = Check.told("grid 2 2;right 0 0 3 -2;down 1 0 5 0;right 0 1 0 5;down 0 0 0 5");
        Check.due("has to bear 2, and can", x.circulates(), 1);
        Check.due("potential(72)", x.potential(72), 0);
        Check.due("potential(0)", x.potential(0), 3);
        x.bears(4, 2, 0);
        Check.due("potential(0)", x.potential(0), 2);
        Check.throwsNoSuch("potential(1)", () -> x.potential(1));
        Check.throwsNoSuch("potential(-1)", () -> x.potential(-1));
        Check.throwsNoSuch("potential(73)", () -> x.potential(73));
        x.bears(4, 1, 0);
        Check.due("has to bear 2, and can't", x.circulates(), 0);
        Check.due("there is none", x.potential(72), -100000);
        Check.throwsNoSuch("no such one, and there is none", () -> x.potential(1));
    }

    // Promise 13: worked out by hand, round by round
    private static void ring() {
        PlanarFlow x = Check.told("grid 3 2;all 9 9;right 1 0 -2 9;down 1 0 -3 9;right 0 0 9 4");
        Check.due("circulates()", x.circulates(), 0);
        int[] due = {-101, -1, 3, 72, 0, 2, -101, -101};
        for (int i = -3; i < 5; i++) {
            Check.due("ring(" + i + ")", x.ring(i), due[i + 3]);
        }
        Check.due("ring of the greatest", x.ring(Integer.MAX_VALUE), -101);
        x.bears(0, 9, 5);
        Check.due("a RING of 0 is none", x.ring(-1), -101);
        Check.due("a RING of 0 is none", x.ring(-2), -101);
        Check.due("a RING of 0 is none", x.ring(0), -101);
    }

    // Promises 14 to 17: leftmost ways, worked out by hand
    private static void flow() {
        PlanarFlow x = Check.told("grid 3 3;all 1 1");
        Check.due("flow(0, 8)", x.flow(0, 8), 2);
        int[] on = {1, 1, 0, 1, 0, 0, 0, 1, 0, 1, 0, 0, 0, 1, 0, 0, 1, 0, 0, 0, 0, 1};
        for (int edge = 0; edge < on.length; edge++) {
            if (x.edge(edge, 0) >= 0) {
                Check.due("on(" + edge + ")", x.on(edge), on[edge]);
            }
        }
        int[] ways = {2, 4, 1, 0, 8};
        for (int what = 0; what < 5; what++) {
            Check.due("ways(" + what + ")", x.ways(what), ways[what]);
        }
        Check.due("ways(5)", x.ways(5), -1);
        Check.due("ways(-1)", x.ways(-1), -1);
        int[][] wrong = {{0, 0}, {-1, 0}, {0, -1}, {9, 0}, {0, 9}, {Integer.MAX_VALUE, 0}};
        for (int[] pair : wrong) {
            Check.due("flow(" + pair[0] + ", " + pair[1] + ")", x.flow(pair[0], pair[1]), -1);
        }
        Check.due("refused: the FLOW is as it was", x.ways(4), 8);

        PlanarFlow dry = new PlanarFlow();
        Check.due("nothing flows", dry.flow(0, 8), 0);
        Check.due("without: WAYS", dry.ways(0), 0);
        Check.due("without: longest", dry.ways(1), 0);
        Check.due("without: least", dry.ways(2), 0);

        // straight up first at s: of the darts of the middle, up, right, down, left
        PlanarFlow star = Check.told("grid 3 3;all 0 0;down 1 0 0 1;right 0 0 0 1;down 0 0 1 0;right 0 1 1 1;slash 0 0 1 1");
        Check.due("flow(4, 3)", star.flow(4, 3), 2);
        Check.due("first up, left, down", star.ways(1), 3);
        Check.due("then left", star.on(9), -1);
        Check.due("aslant was not needed", star.on(2), 0);
    }

    // Promises 14, 17: one way winds through all nodes of the greatest grid, after nothing else leads on
    private static void longestWay() {
        PlanarFlow x = new PlanarFlow();
        x.grid(6, 6);
        for (int y = 0; y < 6; y++) {
            for (int e = 0; e < 5; e++) {
                x.bears(3 * (6 * y + e), y % 2 == 0 ? 1 : 0, y % 2 == 0 ? 0 : 1);
            }
            if (y < 5) {
                x.bears(3 * (6 * y + (y % 2 == 0 ? 5 : 0)) + 1, 1, 0);
            }
        }
        Check.due("flow(0, 30)", x.flow(0, 30), 1);
        Check.due("WAYS", x.ways(0), 1);
        Check.due("its EDGES", x.ways(1), 35);
    }

    // Promises 14 to 18: what has to be borne, what is left, exceptions
    private static void questionsOfFlow() {
        PlanarFlow x = Check.told("grid 2 2;right 0 0 3 -2;down 1 0 5 0;right 0 1 0 5;down 0 0 0 5");
        Check.noFlow("no flow yet", x);
        Check.due("no FLOW: ways(0)", x.ways(0), -1);
        Check.throwsNoSuch("no FLOW: left(0, 0)", () -> x.left(0, 0));
        Check.throwsNoSuch("no FLOW: excess(0)", () -> x.excess(0));
        // the circulation is 3 all around; back it goes till 2 are left on edge 0
        Check.due("flow(1, 0)", x.flow(1, 0), 3);
        Check.due("on(0)", x.on(0), 2);
        Check.due("on(4)", x.on(4), 5);
        Check.due("on(6)", x.on(6), -5);
        Check.due("on(1)", x.on(1), -5);
        Check.due("left(0, 0)", x.left(0, 0), 1);
        Check.due("left(0, 1)", x.left(0, 1), 0);
        Check.due("left(6, 0)", x.left(6, 0), 5);
        Check.due("left(6, 1)", x.left(6, 1), 0);
        Check.due("excess(0)", x.excess(0), 3);
        Check.due("excess(1)", x.excess(1), -3);
        Check.due("excess(2)", x.excess(2), 0);
        Check.throwsNoSuch("on(2)", () -> x.on(2));
        Check.throwsNoSuch("on(-1)", () -> x.on(-1));
        Check.throwsNoSuch("on(108)", () -> x.on(108));
        Check.throwsNoSuch("left(2, 0)", () -> x.left(2, 0));
        Check.throwsNoSuch("left(0, 2)", () -> x.left(0, 2));
        Check.throwsNoSuch("left(0, -1)", () -> x.left(0, -1));
        Check.throwsNoSuch("excess(4)", () -> x.excess(4));
        Check.throwsNoSuch("excess(-1)", () -> x.excess(-1));
        x.bears(4, 1, 0);
        Check.due("no CIRCULATION", x.flow(0, 1), -2);
        Check.due("one and itself first", x.flow(1, 1), -1);
        Check.noFlow("no CIRCULATION", x);
    }

    // Promise 19
    private static void cut() {
        PlanarFlow x = Check.told("grid 3 3;all 1 1");
        Check.due("no FLOW", x.cut(0, -1), -101);
        x.flow(0, 8);
        int[][] due = {{-101, 2, 2, 0, 1, -101}, {-101, 2, 2, 16, 21, -101}};
        for (int side = 0; side < 2; side++) {
            for (int i = -3; i < 3; i++) {
                Check.due("cut(" + side + ", " + i + ")", x.cut(side, i), due[side][i + 3]);
            }
        }
        Check.due("cut(2, -1)", x.cut(2, -1), -101);
        Check.due("cut(-1, -1)", x.cut(-1, -1), -101);
        Check.due("cut(0, greatest)", x.cut(0, Integer.MAX_VALUE), -101);
        // that way: against FORTH of the edges it is BACK that counts
        PlanarFlow y = Check.told("grid 2 2;all 9 2");
        Check.due("flow(3, 0)", y.flow(3, 0), 4);
        Check.due("cut(0, -2)", y.cut(0, -2), 4);
        Check.due("cut(0, 0)", y.cut(0, 0), 4);
        Check.due("cut(0, 1)", y.cut(0, 1), 6);
        Check.due("cut(1, 0)", y.cut(1, 0), 0);
        Check.due("cut(1, 1)", y.cut(1, 1), 1);
        y.gather(0, 3, 1);
        Check.due("GATHERED", y.cut(0, -1), -101);
        y.meet();
        Check.due("MET", y.cut(0, -2), -101);
    }

    // Promise 20
    private static void rings() {
        String calm = "grid 5 3;all 5 5;right 0 1 1 1;right 1 1 1 1;down 1 0 1 1;down 1 1 1 1;";
        PlanarFlow x = Check.told(calm + "right 2 1 0 0;right 3 1 0 0;down 3 0 0 0;down 3 1 0 0");
        Check.due("no FLOW", x.rings(0), -1);
        Check.due("flow(0, 6)", x.flow(0, 6), 4);
        int[] edges = {4, 10, 15, 18, 19, 21, 24, 25};
        for (int i = 0; i < edges.length; i++) {
            Check.due("cut(0, " + i + ")", x.cut(0, i), edges[i]);
        }
        Check.due("rings(0)", x.rings(0), 2);
        Check.due("rings(1)", x.rings(1), 1);
        Check.due("cut(1, -1)", x.cut(1, -1), 4);
        Check.due("rings(2)", x.rings(2), -1);
        Check.due("rings(-1)", x.rings(-1), -1);
        x.gather(72, 6, 1);
        Check.due("GATHERED", x.rings(0), -1);
        x.meet();
        Check.due("MET", x.rings(0), -1);
    }

    // Promise 21
    private static void shared() {
        PlanarFlow x = Check.told("grid 3 3;all 1 0;down 0 0 7 0;down 0 1 4 0;right 0 2 9 0;right 1 2 9 0");
        Check.due("shared(0, 8)", x.shared(0, 8), 6);
        Check.due("shared(8, 0)", x.shared(8, 0), 0);
        Check.due("shared(0, 1)", x.shared(0, 1), 1);
        Check.due("on the inside", x.shared(4, 0), -1);
        Check.due("on the inside", x.shared(0, 4), -1);
        Check.due("one and itself", x.shared(2, 2), -1);
        Check.due("no NODE", x.shared(-1, 2), -1);
        Check.due("no NODE", x.shared(0, 9), -1);
        Check.due("nothing is another one", x.count(6), 0);
        x.bears(4, 9, -9);
        Check.due("no CIRCULATION", x.shared(0, 8), -2);
        Check.due("others first", x.shared(0, 4), -1);
    }

    // Promises 22, 25
    private static void gather() {
        // the circulation is 5 all around, clockwise: so node 0 gives its 7 downwards by one way
        PlanarFlow x = Check.told("grid 2 2;all 5 5");
        Check.due("none: gave(0)", x.gave(0), -101);
        Check.due("gather(0, 3, 7)", x.gather(0, 3, 7), 10);
        int[] gave = {7, 3, 0, -10, -101};
        for (int node = 0; node < gave.length; node++) {
            Check.due("gave(" + node + ")", x.gave(node), gave[node]);
        }
        Check.due("gave(-1)", x.gave(-1), -101);
        int[] ways = {2, 3, 3, -1, 3};
        for (int what = 0; what < 5; what++) {
            Check.due("ways(" + what + ")", x.ways(what), ways[what]);
        }
        Check.due("on(0)", x.on(0), 2);
        Check.due("on(1)", x.on(1), 5);
        Check.due("excess(1)", x.excess(1), -3);
        int[][] wrong = {{1, 3, 7}, {0, 4, 7}, {0, -1, 7}, {0, 3, 0}, {0, 3, 1000}, {73, 3, 7}, {-1, 3, 7}, {0, 3, -5}};
        for (int[] three : wrong) {
            Check.due("gather " + three[0] + " " + three[1] + " " + three[2],
                    x.gather(three[0], three[1], three[2]), -1);
        }
        Check.due("refused: the FLOW is as it was", x.gave(3), -10);
        Check.due("gather(72, 0, 999)", x.gather(72, 0, 999), 10);
        x.flow(0, 1);
        Check.due("of flow(): gave(0)", x.gave(0), -101);
        x.slant(0, 1);
        Check.due("the lower half has no node 1", x.gather(1, 3, 1), 2);
        Check.due("gave(1)", x.gave(1), 0);
        Check.due("gave(2)", x.gave(2), 1);
        PlanarFlow y = Check.told("grid 3 3;all 1 1");
        Check.due("from all around to the middle", y.gather(72, 4, 3), 4);
        Check.due("gave(4)", y.gave(4), -4);
        y.bears(0, 9, -9);
        Check.due("no CIRCULATION", y.gather(72, 4, 3), -2);
    }

    // Promises 23 to 25
    private static void supplyAndMeet() {
        PlanarFlow x = Check.told("grid 3 3;all 2 0");
        Check.due("supply(0, 3)", x.supply(0, 3), 0);
        Check.due("supply(8, 99)", x.supply(8, 99), 0);
        Check.due("supply(8, -1)", x.supply(8, -1), 99);
        Check.due("supply(2, -99)", x.supply(2, -99), 0);
        Check.due("supply(2, -1)", x.supply(2, -1), -99);
        Check.due("supply(4, -5)", x.supply(4, -5), 0);
        int[][] wrong = {{9, 1}, {-1, 1}, {0, 100}, {0, -100}, {Integer.MAX_VALUE, 0}};
        for (int[] pair : wrong) {
            Check.due("supply(" + pair[0] + ", " + pair[1] + ")", x.supply(pair[0], pair[1]), -101);
        }
        Check.due("meet()", x.meet(), 3);
        int[] gave = {3, 0, -1, 0, -1, 0, 0, 0, -1};
        for (int node = 0; node < 9; node++) {
            Check.due("gave(" + node + ")", x.gave(node), gave[node]);
        }
        int[] ways = {3, 4, 1, -1, -1};
        for (int what = 0; what < 5; what++) {
            Check.due("ways(" + what + ")", x.ways(what), ways[what]);
        }
        Check.due("on(9)", x.on(9), 1);
        Check.due("excess(4)", x.excess(4), 1);
        Check.due("supply(0, 1)", x.supply(0, 1), 3);
        Check.due("FLOW stays", x.gave(0), 3);
        Check.due("meet() anew", x.meet(), 1);
        Check.due("the first that is come to", x.gave(2), -1);
        x.bears(0, 9, -9);
        Check.due("no CIRCULATION", x.meet(), -2);
        PlanarFlow none = new PlanarFlow();
        Check.due("nobody gives", none.meet(), 0);
        Check.due("a FLOW all the same", none.count(6), 1);
        Check.due("gave(0)", none.gave(0), 0);
    }

    // Promise 26
    private static void were() {
        PlanarFlow x = Check.told("grid 2 2;right 0 0 99 99;down 1 0 5 0;right 0 1 0 5;down 0 0 0 5");
        x.flow(1, 0);
        int before = x.on(0);
        Check.due("1 more FORTH, above 99", x.were(0, 1, 0, 1), 100);
        Check.due("1 more BACK, above 99", x.were(0, 2, 1, 0), 105);
        Check.due("0, 0", x.were(0, 0, 1, 0), 5);
        Check.due("FORTH of the other way", x.were(0, 1, 1, 0), 104);
        Check.due("BACK of the other way", x.were(0, 2, 0, 1), 99);
        Check.due("nothing is another one", x.on(0), before);
        Check.due("nothing is another one", x.edge(0, 2), 99);
        Check.due("nothing is another one", x.edge(0, 3), 99);
        int[][] wrong = {{2, 0, 0, 1}, {0, 3, 0, 1}, {0, -1, 0, 1}, {0, 0, 1, 1}, {0, 0, -1, 1}, {0, 0, 0, 4}};
        for (int[] four : wrong) {
            Check.due("were " + four[0] + " " + four[1] + " " + four[2] + " " + four[3],
                    x.were(four[0], four[1], four[2], four[3]), -1);
        }
        x.bears(0, 3, -2);
        Check.due("no CIRCULATION then", x.were(4, 0, 0, 1), -2);
        x.bears(4, 1, 0);
        Check.due("none now", x.were(1, 1, 0, 1), -2);
        Check.due("but then", x.were(4, 1, 0, 1), 3);
        Check.due("had it nothing to bear", x.were(0, 0, 1, 0), 1);
    }

    // Promise 27
    private static void counts() {
        PlanarFlow x = Check.told("grid 2 2;right 0 0 5 0;down 0 0 3 0;down 1 0 4 1;right 0 1 7 0");
        Check.due("counts(0, 0, 3)", x.counts(0, 0, 3), 4);
        Check.due("counts(1, 0, 3)", x.counts(1, 0, 3), 2);
        Check.due("counts(0, 3, 0)", x.counts(0, 3, 0), 0);
        Check.due("counts(2, 0, 3)", x.counts(2, 0, 3), -1);
        Check.due("counts(-1, 0, 3)", x.counts(-1, 0, 3), -1);
        Check.due("counts(0, 3, 3)", x.counts(0, 3, 3), -1);
        Check.due("counts(0, 4, 3)", x.counts(0, 4, 3), -1);
        Check.due("counts(0, 0, -1)", x.counts(0, 0, -1), -1);
        x.flow(0, 3);
        x.counts(0, 0, 3);
        Check.due("nothing is another one", x.on(4), 4);
        // without an edge of the way back there is no CIRCULATION
        PlanarFlow y = Check.told("grid 2 2;right 0 0 3 -2;down 1 0 5 0;right 0 1 0 5;down 0 0 0 5");
        Check.due("no CIRCULATION counts", y.counts(0, 1, 0), 3);
        // only edge 6 parts 3 from 0 and 2 all by itself, whichever way
        PlanarFlow z = Check.told("grid 2 2;right 0 0 0 0;down 0 0 0 4;down 1 0 0 0;right 0 1 0 0");
        Check.due("1 more FORTH of one edge", z.counts(1, 2, 3), 1);
        Check.due("1 more BACK of one edge", z.counts(1, 3, 0), 1);
        Check.due("nothing to lose", z.counts(0, 3, 0), 0);
        y.bears(4, 1, 0);
        Check.due("no CIRCULATION now", y.counts(0, 1, 0), -2);
        Check.due("others first", y.counts(0, 1, 1), -1);
    }

    // Promise 28
    private static void worst() {
        PlanarFlow x = Check.told("grid 2 2;right 0 0 5 0;down 0 0 3 0;down 1 0 4 1;right 0 1 7 0");
        Check.due("worst(0, 0)", x.worst(0, 0), 2);
        Check.due("worst(0, 1)", x.worst(0, 1), 3);
        Check.due("of several the first", x.worst(2, 0), 0);
        Check.due("of several the first", x.worst(2, 1), 0);
        Check.due("not itself", new PlanarFlow().worst(0, 0), 1);
        Check.due("worst(4, 0)", x.worst(4, 0), -1);
        Check.due("worst(-1, 0)", x.worst(-1, 0), -1);
        Check.due("worst(0, 2)", x.worst(0, 2), -1);
        Check.due("worst(0, -1)", x.worst(0, -1), -1);
        x.bears(0, 9, -9);
        Check.due("no CIRCULATION", x.worst(0, 1), -2);
        Check.due("others first", x.worst(0, 2), -1);
    }

    // Promises 29, 30
    private static void images() {
        PlanarFlow x = Check.told("grid 4 3;all 2 2;back 1 1 5 6");
        x.supply(11, -8);
        for (int i : new int[] {-1, 2, Integer.MAX_VALUE}) {
            Check.due("image(" + i + ")", x.image(i), false);
            Check.due("back(" + i + ")", x.back(i), false);
        }
        Check.due("none was made", x.back(1), false);
        x.flow(0, 3);
        Check.due("image(1)", x.image(1), true);
        Check.due("a FLOW stays while an image is made", x.count(6), 1);
        Check.due("none was made of the other", x.back(0), false);
        Check.due("refused: FLOW stays", x.count(6), 1);
        x.grid(2, 2);
        x.bears(0, 1, 1);
        Check.due("image(0)", x.image(0), true);
        x.bears(0, 7, 7);
        x.flow(0, 1);
        Check.due("back(1)", x.back(1), true);
        Check.noFlow("back", x);
        Check.due("w", x.count(0), 4);
        Check.due("h", x.count(1), 3);
        Check.due("aslant", x.edge(17, 0), 6);
        Check.due("its FORTH", x.edge(17, 2), 5);
        Check.due("SUPPLY", x.count(9), 8);
        Check.due("FACES", x.count(3), 8);
        Check.due("back(0)", x.back(0), true);
        Check.due("w", x.count(0), 2);
        Check.due("FORTH", x.edge(0, 2), 1);
        x.bears(0, 9, 9);
        Check.due("an image is not changed", x.back(0), true);
        Check.due("an image is not changed", x.edge(0, 2), 1);
        x.bears(0, 4, 4);
        Check.due("made anew", x.image(0), true);
        x.grid(3, 3);
        x.back(0);
        Check.due("made anew", x.edge(0, 2), 4);
    }

    // Promise 31
    private static void count() {
        PlanarFlow x = Check.told("grid 5 4;all 3 -1;slash 0 0 9 0;back 3 2 0 9");
        x.supply(0, 5);
        x.supply(19, 6);
        x.supply(7, -9);
        x.feed(0, 0, 0, 0, 0);
        int[] due = {5, 4, 33, 15, 2, 80, 0, 20, 11, 9, -1};
        for (int what = 0; what < due.length; what++) {
            Check.due("count(" + what + ")", x.count(what), due[what]);
        }
        Check.due("count(-1)", x.count(-1), -1);
        Check.due("count(least)", x.count(Integer.MIN_VALUE), -1);
        PlanarFlow y = new PlanarFlow();
        y.flow(0, 1);
        Check.due("there is a FLOW", y.count(6), 1);
    }
}
