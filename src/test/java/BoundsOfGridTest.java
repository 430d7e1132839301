/** Promises 1, 4 to 8, 23 and 29 to 31 and the GRID of the terms: every boundary that the document names. */
public final class BoundsOfGridTest {
    private static final int NONE = -1;
    private static final int[] FAR = {Integer.MIN_VALUE, Integer.MIN_VALUE + 1, -1000, 1000, Integer.MAX_VALUE - 1,
        Integer.MAX_VALUE};

    public static void main(String[] args) {
        sides();
        farSides();
        refusedGridLeavesAll();
        edgesOfEverySize();
        edgesAslantOfEverySize();
        facesOfEverySize();
        slantsRefused();
        slantTakesWhatItBore();
        slantLeavesOthers();
        bearsBounds();
        bearsAtFirst();
        noSuchEdgeBears();
        edgeQuestions();
        supplyBounds();
        supplyStays();
        countsOfTheGreatest();
        otherCounts();
        imageBounds();
        backBounds();
        imagesAreApart();
        imageOfAnotherSize();
        Check.end("BoundsOfGridTest");
    }

    private static boolean isSide(int side) {
        return side >= 2 && side <= 6;
    }

    // Terms: 2 to 6 each; promise 4: how many EDGES; NONE: others
    private static void sides() {
        for (int w = -2; w <= 9; w++) {
            for (int h = -2; h <= 9; h++) {
                boolean good = isSide(w) && isSide(h);
                PlanarFlow x = new PlanarFlow();
                String call = "grid(" + w + ", " + h + ")";
                Check.due(call, x.grid(w, h), good ? (w - 1) * h + w * (h - 1) : NONE);
                Check.due(call + ": w", x.count(0), good ? w : 3);
                Check.due(call + ": h", x.count(1), good ? h : 3);
                Check.due(call + ": FACES", x.count(3), good ? (w - 1) * (h - 1) + 1 : 5);
            }
        }
    }

    private static void farSides() {
        PlanarFlow x = new PlanarFlow();
        for (int far : FAR) {
            Check.due("grid(" + far + ", 3)", x.grid(far, 3), NONE);
            Check.due("grid(3, " + far + ")", x.grid(3, far), NONE);
            Check.due("grid(" + far + ", " + far + ")", x.grid(far, far), NONE);
        }
    }

    // Promise 4: NONE: others: then all is as it was
    private static void refusedGridLeavesAll() {
        PlanarFlow x = Check.told("grid 4 2;all 3 1;slash 0 0 1 1");
        x.supply(7, -3);
        x.supply(0, 4);
        Check.feed(x, "x");
        x.flow(0, 7);
        int value = x.on(0);
        x.grid(1, 2);
        x.grid(4, 7);
        int[] due = {4, 2, 11, 5, 1, 42, 1, 20, 4, 3};
        for (int what = 0; what < due.length; what++) {
            Check.due("refused: count(" + what + ")", x.count(what), due[what]);
        }
        Check.due("refused: the FLOW", x.on(0), value);
    }

    // Terms: 3 n (x below w - 1), 3 n + 1 (y below h - 1), 3 n + 2 none at first
    private static void edgesOfEverySize() {
        for (int w = 2; w <= 6; w++) {
            for (int h = 2; h <= 6; h++) {
                PlanarFlow x = new PlanarFlow();
                x.grid(w, h);
                for (int edge = -3; edge < 112; edge++) {
                    edgeOf(x, w, h, edge);
                }
            }
        }
    }

    private static void edgeOf(PlanarFlow x, int w, int h, int edge) {
        int n = Math.floorDiv(edge, 3);
        int kind = Math.floorMod(edge, 3);
        boolean right = kind == 0 && n >= 0 && n < w * h && n % w < w - 1;
        boolean down = kind == 1 && n >= 0 && n < w * (h - 1);
        String call = "edge " + edge + " of " + w + " by " + h;
        Check.due(call + " from", x.edge(edge, 0), right || down ? n : -101);
        Check.due(call + " to", x.edge(edge, 1), right ? n + 1 : down ? n + w : -101);
        Check.due(call + " FORTH", x.edge(edge, 2), right || down ? 0 : -101);
        Check.due(call + " BACK", x.edge(edge, 3), right || down ? 0 : -101);
        Check.due(call + " bears", x.bears(edge, 1, 0), right || down);
    }

    // Terms: the CELL right below it, aslant if that is told: 1 down to the right, 2 down to the left
    private static void edgesAslantOfEverySize() {
        for (int w = 2; w <= 6; w++) {
            for (int h = 2; h <= 6; h++) {
                PlanarFlow x = new PlanarFlow();
                x.grid(w, h);
                for (int n = -2; n < 40; n++) {
                    aslant(x, w, h, n);
                }
                Check.due("EDGES aslant", x.count(4), (w - 1) * (h - 1));
            }
        }
    }

    private static boolean isCell(int w, int h, int n) {
        return n >= 0 && n < w * (h - 1) && n % w < w - 1;
    }

    private static void aslant(PlanarFlow x, int w, int h, int n) {
        boolean cell = isCell(w, h, n);
        int e = 3 * n + 2;
        String call = "slant " + n + " of " + w + " by " + h;
        Check.due(call + ": 1", x.slant(n, 1), cell ? 0 : NONE);
        int[] one = {n, n + w + 1, 0, 0, 2 * n, 2 * n + 1};
        for (int what = 0; what < 6; what++) {
            Check.due(call + ": 1, edge " + what, x.edge(e, what), cell ? one[what] : -101);
        }
        Check.due(call + ": 2", x.slant(n, 2), cell ? 1 : NONE);
        int[] two = {n + 1, n + w, 0, 0, 2 * n + 1, 2 * n};
        for (int what = 0; what < 6; what++) {
            Check.due(call + ": 2, edge " + what, x.edge(e, what), cell ? two[what] : -101);
        }
    }

    // Terms: FACE 2 n, 2 n + 1 the other half, OUTER 72; promise 8: no such one
    private static void facesOfEverySize() {
        for (int w = 2; w <= 6; w++) {
            for (int h = 2; h <= 6; h++) {
                for (int how = 0; how <= 2; how++) {
                    PlanarFlow x = new PlanarFlow();
                    x.grid(w, h);
                    for (int n = 0; n < w * h; n++) {
                        x.slant(n, how);
                    }
                    facesOf(x, w, h, how);
                }
            }
        }
    }

    private static void facesOf(PlanarFlow x, int w, int h, int how) {
        int found = 0;
        for (int face = -2; face < 76; face++) {
            int f = face;
            boolean there = face == 72 || isCell(w, h, Math.floorDiv(face, 2)) && (face % 2 == 0 || how > 0);
            String call = "around(" + face + ") of " + w + " by " + h;
            if (there) {
                int want = face == 72 ? 2 * (w - 1) + 2 * (h - 1) : how == 0 ? 4 : 3;
                Check.due(call, x.around(face), want);
                Check.due("potential(" + face + ")", x.potential(face), 0);
                found++;
            } else {
                Check.throwsNoSuch(call, () -> x.around(f));
                Check.throwsNoSuch("potential(" + face + ")", () -> x.potential(f));
            }
        }
        Check.due("FACES of " + w + " by " + h, x.count(3), found);
    }

    // Promise 5: NONE: others: then all is as it was
    private static void slantsRefused() {
        PlanarFlow x = Check.told("grid 3 3;slash 0 0 5 6");
        x.flow(0, 4);
        for (int how : new int[] {-2, -1, 3, 4, Integer.MIN_VALUE, Integer.MAX_VALUE}) {
            Check.due("slant(0, " + how + ")", x.slant(0, how), NONE);
        }
        for (int node : new int[] {-1, 2, 5, 6, 7, 8, 9, 24, 35, 36, 37, 71, 72, Integer.MIN_VALUE, 1 << 30,
            Integer.MAX_VALUE}) {
            for (int how = 0; how <= 2; how++) {
                Check.due("slant(" + node + ", " + how + ")", x.slant(node, how), NONE);
            }
        }
        Check.due("refused: FORTH", x.edge(2, 2), 5);
        Check.due("refused: BACK", x.edge(2, 3), 6);
        Check.due("refused: aslant", x.count(4), 1);
        Check.due("refused: the FLOW", x.on(2), 5);
    }

    // Promise 5: (its BEARS 0, 0): what it was
    private static void slantTakesWhatItBore() {
        for (int before = 0; before <= 2; before++) {
            for (int then = 0; then <= 2; then++) {
                PlanarFlow x = new PlanarFlow();
                x.slant(4, before);
                Check.due("bears where aslant", x.bears(14, 8, 9), before > 0);
                x.flow(0, 1);
                Check.due("what it was", x.slant(4, then), before);
                Check.noFlow("slant", x);
                Check.due("its FORTH", x.edge(14, 2), then > 0 ? 0 : -101);
                Check.due("its BACK", x.edge(14, 3), then > 0 ? 0 : -101);
                Check.due("EDGES", x.count(2), then > 0 ? 13 : 12);
                Check.due("FACES", x.count(3), then > 0 ? 6 : 5);
                Check.due("what it is", x.slant(4, then), then);
            }
        }
    }

    private static void slantLeavesOthers() {
        PlanarFlow x = Check.told("grid 3 3;slash 0 0 5 6;all 7 8");
        x.supply(3, 4);
        x.slant(1, 2);
        x.slant(4, 1);
        Check.due("all that the others bear", x.count(5), 13 * 15);
        Check.due("SUPPLY", x.count(8), 4);
        Check.due("the other one aslant", x.edge(2, 2), 7);
    }

    // Terms: -99 to 99 each, together 0 at least; no wrap-around of the sum
    private static void bearsBounds() {
        int[] some = {Integer.MIN_VALUE, -1 << 30, -101, -100, -99, -98, -50, -1, 0, 1, 50, 98, 99, 100, 101, 1 << 30,
            Integer.MAX_VALUE};
        for (int forth : some) {
            for (int back : some) {
                PlanarFlow x = Check.told("grid 2 2;all 4 5");
                x.flow(0, 3);
                boolean good = forth >= -99 && forth <= 99 && back >= -99 && back <= 99 && forth + back >= 0;
                String call = "bears(1, " + forth + ", " + back + ")";
                Check.due(call, x.bears(1, forth, back), good);
                Check.due(call + ": FORTH", x.edge(1, 2), good ? forth : 4);
                Check.due(call + ": BACK", x.edge(1, 3), good ? back : 5);
                Check.due(call + ": FLOW", x.count(6), good ? 0 : 1);
            }
        }
    }

    // Terms: 0 at first
    private static void bearsAtFirst() {
        PlanarFlow x = new PlanarFlow();
        x.slant(0, 1);
        for (int edge = 0; edge < 27; edge++) {
            if (x.edge(edge, 0) >= 0) {
                Check.due("FORTH of " + edge, x.edge(edge, 2), 0);
                Check.due("BACK of " + edge, x.edge(edge, 3), 0);
            }
        }
    }

    // Promise 6: false: there is no such EDGE
    private static void noSuchEdgeBears() {
        PlanarFlow x = new PlanarFlow();
        x.slant(0, 1);
        x.flow(0, 1);
        for (int edge : new int[] {-3, -2, -1, 5, 6, 8, 11, 14, 15, 17, 19, 20, 22, 24, 25, 26, 27, 107, 108, 109,
            Integer.MIN_VALUE, Integer.MAX_VALUE}) {
            Check.due("bears " + edge, x.bears(edge, 1, 1), false);
        }
        Check.due("refused: FLOW stays", x.count(6), 1);
        Check.due("refused: nothing is borne", x.count(5), 0);
        Check.due("that aslant is one", x.bears(2, 1, 1), true);
        x.slant(0, 0);
        Check.due("that was aslant is none", x.bears(2, 1, 1), false);
    }

    // Promise 7: -101: others
    private static void edgeQuestions() {
        PlanarFlow x = Check.told("grid 2 2;all 9 -9;slash 0 0 1 2");
        for (int what : new int[] {-3, -2, -1, 6, 7, 100, Integer.MIN_VALUE, Integer.MAX_VALUE}) {
            Check.due("edge(0, " + what + ")", x.edge(0, what), -101);
        }
        for (int edge : new int[] {-1, 3, 5, 7, 8, 9, 107, 108, Integer.MIN_VALUE, Integer.MAX_VALUE}) {
            for (int what = 0; what < 6; what++) {
                Check.due("edge(" + edge + ", " + what + ")", x.edge(edge, what), -101);
            }
        }
        Check.due("below 0 is no refusal", x.edge(0, 3), -9);
    }

    // Promise 23: SUPPLY -99 to 99: what it was; -101: others
    private static void supplyBounds() {
        PlanarFlow x = new PlanarFlow();
        int was = 0;
        for (int amount : new int[] {99, -99, 0, 98, -98, 1, -1}) {
            Check.due("supply(8, " + amount + ")", x.supply(8, amount), was);
            was = amount;
        }
        for (int amount : new int[] {-101, -100, 100, 101, Integer.MIN_VALUE, Integer.MAX_VALUE}) {
            Check.due("supply(8, " + amount + ")", x.supply(8, amount), -101);
        }
        for (int node : new int[] {-1, 9, 10, 35, 36, Integer.MIN_VALUE, Integer.MAX_VALUE}) {
            Check.due("supply(" + node + ", 5)", x.supply(node, 5), -101);
        }
        Check.due("refused: it is as it was", x.supply(8, 0), -1);
        Check.due("refused: nobody gives", x.count(8), 0);
    }

    // Promise 23: (FLOW stays.); SUPPLY stays when the edges change
    private static void supplyStays() {
        PlanarFlow x = Check.told("grid 2 2;all 5 5");
        x.flow(0, 3);
        x.supply(1, 7);
        x.supply(1, 100);
        Check.due("FLOW stays", x.count(6), 1);
        x.bears(0, 1, 1);
        x.slant(0, 2);
        Check.due("SUPPLY stays", x.supply(1, 0), 7);
        x.supply(2, -6);
        x.grid(2, 2);
        Check.due("as at first", x.supply(2, 0), 0);
    }

    // Promise 31: each at its greatest
    private static void countsOfTheGreatest() {
        PlanarFlow x = Check.told("grid 6 6");
        for (int n = 0; n < 36; n++) {
            x.slant(n, 1 + n % 2);
            x.supply(n, 99);
        }
        int[] due = {6, 6, 85, 51, 25, 85 * 198, 0, 0, 36 * 99, 0};
        for (int edge = 0; edge < 108; edge++) {
            x.bears(edge, 99, 99);
        }
        for (int what = 0; what < due.length; what++) {
            Check.due("count(" + what + ")", x.count(what), due[what]);
        }
        for (int n = 0; n < 36; n++) {
            x.supply(n, -99);
        }
        Check.due("all that NODES give", x.count(8), 0);
        Check.due("all that they take", x.count(9), 36 * 99);
        Check.due("a FLOW", x.flow(0, 35) >= 0, true);
        Check.due("there is a FLOW", x.count(6), 1);
    }

    // Promise 31: NONE for another what
    private static void otherCounts() {
        PlanarFlow x = new PlanarFlow();
        for (int what : new int[] {-2, -1, 10, 11, Integer.MIN_VALUE, Integer.MAX_VALUE}) {
            Check.due("count(" + what + ")", x.count(what), NONE);
        }
        x.bears(0, 5, -5);
        Check.due("what has to be borne takes off", x.count(5), 0);
    }

    // Promise 29: false: others (0, 1)
    private static void imageBounds() {
        PlanarFlow x = new PlanarFlow();
        for (int i : new int[] {-2, -1, 2, 3, Integer.MIN_VALUE, Integer.MAX_VALUE}) {
            Check.due("image(" + i + ")", x.image(i), false);
        }
        Check.due("none was made: back(0)", x.back(0), false);
        Check.due("none was made: back(1)", x.back(1), false);
        Check.due("image(0)", x.image(0), true);
        Check.due("none was made: back(1)", x.back(1), false);
        Check.due("image(1)", x.image(1), true);
        Check.due("back(1)", x.back(1), true);
    }

    // Promise 30: false: others, none was made: then all is as it was
    private static void backBounds() {
        PlanarFlow x = new PlanarFlow();
        x.image(0);
        x.grid(2, 2);
        x.flow(0, 1);
        for (int i : new int[] {-2, -1, 1, 2, 3, Integer.MIN_VALUE, Integer.MAX_VALUE}) {
            Check.due("back(" + i + ")", x.back(i), false);
            Check.due("refused: w", x.count(0), 2);
            Check.due("refused: FLOW", x.count(6), 1);
        }
        Check.due("back(0)", x.back(0), true);
        Check.noFlow("back", x);
        Check.due("back(0) again", x.back(0), true);
    }

    // Promises 29, 30: two images, and the GRID apart from both
    private static void imagesAreApart() {
        PlanarFlow x = Check.told("grid 2 2;all 1 1;slash 0 0 2 2");
        x.supply(0, 1);
        x.image(0);
        x.bears(0, 9, 9);
        x.slant(0, 2);
        x.supply(0, 2);
        x.image(1);
        x.bears(0, 8, 8);
        x.slant(0, 0);
        x.supply(0, 3);
        int[][] due = {{1, 0, 1, 1}, {9, 1, 2, 2}};
        for (int i : new int[] {0, 1, 1, 0}) {
            Check.due("back(" + i + ")", x.back(i), true);
            Check.due("FORTH in image " + i, x.edge(0, 2), due[i][0]);
            Check.due("aslant in image " + i, x.edge(2, 0), due[i][1]);
            Check.due("SUPPLY in image " + i, x.supply(0, 50), due[i][2]);
            Check.due("what it was in image " + i, x.slant(0, 0), due[i][3]);
            x.bears(0, 7, 7);
        }
    }

    // Promise 30: the GRID is as in an image, also of another size
    private static void imageOfAnotherSize() {
        PlanarFlow x = Check.told("grid 6 6;all 3 3;back 4 4 1 1");
        x.supply(35, 8);
        x.image(0);
        Check.tell(x, "grid 2 2;slash 0 0 5 5");
        x.image(1);
        Check.due("the small one again", x.back(1), true);
        Check.due("EDGES of the small one", x.count(2), 5);
        Check.due("no SUPPLY in the small one", x.count(8), 0);
        Check.due("back(0)", x.back(0), true);
        int[] due = {6, 6, 61, 27, 1, 362, 0, 0, 8, 0};
        for (int what = 0; what < due.length; what++) {
            Check.due("count(" + what + ")", x.count(what), due[what]);
        }
        Check.due("the last edge aslant", x.edge(3 * 28 + 2, 0), 29);
        x.grid(3, 3);
        Check.due("an image stays when the GRID is another one", x.back(1), true);
        Check.due("w", x.count(0), 2);
    }
}
