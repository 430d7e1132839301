import java.util.ArrayList;
import java.util.List;
import java.util.NoSuchElementException;

/** What each call leaves as it is: questions and refused calls all, feed, supply and image the FLOW. */
public final class StaysTest {
    /** A call, whatever it answers. */
    interface Act {
        void on(PlanarFlow x);
    }

    private static final List<String> NAMES = new ArrayList<>();
    private static final List<Act> ACTS = new ArrayList<>();

    public static void main(String[] args) {
        questions();
        refusals();
        for (int kind = 0; kind < 4; kind++) {
            for (int k = 0; k < ACTS.size(); k++) {
                leavesAll(kind, k);
            }
        }
        keepsTheFlow();
        endsTheFlow();
        putsAnotherFlow();
        Check.end("StaysTest");
    }

    private static void add(String name, Act act) {
        NAMES.add(name);
        ACTS.add(act);
    }

    /** With a tape, an image, supplies and a FLOW of this kind: 0 none, 1 of flow(), 2 of gather(), 3 of meet(). */
    private static PlanarFlow made(int kind) {
        PlanarFlow x = Check.told("grid 3 3;all 4 2;slash 0 0 3 3;back 1 1 1 2;right 0 0 5 -1");
        x.supply(0, 6);
        x.supply(7, -9);
        x.image(1);
        Check.feed(x, "grid 2 2;all 7");
        if (kind == 1) {
            x.flow(0, 8);
        } else if (kind == 2) {
            x.gather(72, 8, 2);
        } else if (kind == 3) {
            x.meet();
        }
        return x;
    }

    /** All that can be asked of the object but its images and the bytes of its tape. */
    private static String all(PlanarFlow x) {
        StringBuilder all = new StringBuilder();
        for (int what = 0; what < 10; what++) {
            all.append(x.count(what)).append(' ');
        }
        for (int edge = 0; edge < 27; edge++) {
            for (int what = 0; what < 6; what++) {
                all.append(x.edge(edge, what)).append(' ');
            }
        }
        all.append(flowOf(x));
        return all.toString();
    }

    private static String flowOf(PlanarFlow x) {
        StringBuilder all = new StringBuilder();
        for (int edge = 0; edge < 27; edge++) {
            if (x.count(6) == 1 && x.edge(edge, 0) >= 0) {
                all.append(x.on(edge)).append(' ');
            }
        }
        for (int k = 0; k < 9; k++) {
            all.append(x.gave(k)).append(' ').append(x.ways(k)).append(' ').append(x.cut(0, k)).append(' ');
        }
        return all.append(x.count(6)).toString();
    }

    private static void questions() {
        add("edge", x -> x.edge(0, 2));
        add("around", x -> x.around(72));
        add("distance", x -> x.distance(0, 8));
        add("route", x -> x.route(0, 8, 0));
        add("circulates", PlanarFlow::circulates);
        add("potential", x -> x.potential(8));
        add("ring", x -> x.ring(0));
        add("on", x -> x.on(0));
        add("left", x -> x.left(0, 1));
        add("ways", x -> x.ways(0));
        add("excess", x -> x.excess(8));
        add("cut", x -> x.cut(1, -2));
        add("rings", x -> x.rings(1));
        add("shared", x -> x.shared(6, 2));
        add("gave", x -> x.gave(0));
        add("count", x -> x.count(5));
        for (int what = 0; what < 3; what++) {
            int w = what;
            add("were", x -> x.were(2, w, 6, 2));
            add("were", x -> x.were(0, w, 2, 6));
            add("counts", x -> x.counts(w, 6, 2));
            add("worst", x -> x.worst(6, w));
        }
    }

    private static void refusals() {
        add("text(-1)", x -> x.text(-1));
        add("text(21)", x -> x.text(21));
        add("grid(1, 2)", x -> x.grid(1, 2));
        add("grid(2, 7)", x -> x.grid(2, 7));
        add("slant(0, 3)", x -> x.slant(0, 3));
        add("slant(2, 1)", x -> x.slant(2, 1));
        add("bears(0, 100, 0)", x -> x.bears(0, 100, 0));
        add("bears(0, 1, -2)", x -> x.bears(0, 1, -2));
        add("bears(5, 1, 1)", x -> x.bears(5, 1, 1));
        add("edge(5, 0)", x -> x.edge(5, 0));
        add("around(3)", x -> x.around(3));
        add("distance(0, 3)", x -> x.distance(0, 3));
        add("route(0, 3, 0)", x -> x.route(0, 3, 0));
        add("potential(3)", x -> x.potential(3));
        add("flow(0, 0)", x -> x.flow(0, 0));
        add("flow(0, 9)", x -> x.flow(0, 9));
        add("on(5)", x -> x.on(5));
        add("left(0, 2)", x -> x.left(0, 2));
        add("excess(9)", x -> x.excess(9));
        add("shared(0, 4)", x -> x.shared(0, 4));
        add("gather(3, 0, 1)", x -> x.gather(3, 0, 1));
        add("gather(0, 9, 1)", x -> x.gather(0, 9, 1));
        add("gather(0, 0, 1000)", x -> x.gather(0, 0, 1000));
        add("gather(0, 0, 0)", x -> x.gather(0, 0, 0));
        add("supply(9, 1)", x -> x.supply(9, 1));
        add("supply(0, 100)", x -> x.supply(0, 100));
        add("were(5, 0, 0, 1)", x -> x.were(5, 0, 0, 1));
        add("image(2)", x -> x.image(2));
        add("back(0)", x -> x.back(0));
        add("back(2)", x -> x.back(2));
    }

    private static void leavesAll(int kind, int k) {
        PlanarFlow x = made(kind);
        String before = all(x);
        try {
            ACTS.get(k).on(x);
        } catch (NoSuchElementException expected) {
            Check.due(NAMES.get(k) + " may throw", true, true);
        }
        Check.due(NAMES.get(k) + " leaves all behind kind " + kind, all(x).equals(before), true);
        Check.due(NAMES.get(k) + " leaves the image", x.back(1) && x.count(8) == 6 && x.edge(2, 2) == 3, true);
        Check.due(NAMES.get(k) + " makes no image", x.back(0), false);
        Check.due(NAMES.get(k) + " leaves the bytes", x.text(14), Check.fault(14, 1));
    }

    // Promises 2, 3 (a FAULT), 23 (FLOW stays), 26 (nothing is another one, here and below: 29)
    private static void keepsTheFlow() {
        for (int kind = 1; kind < 4; kind++) {
            keeps(kind, "feed", x -> x.feed(0, 0, 0, 0, 0));
            keeps(kind, "a text with a FAULT", x -> x.text(14));
            keeps(kind, "an empty text", x -> x.text(0));
            keeps(kind, "supply", x -> x.supply(0, 99));
            keeps(kind, "supply of one that took", x -> x.supply(7, 0));
            keeps(kind, "image(0)", x -> x.image(0));
            keeps(kind, "image(1)", x -> x.image(1));
        }
    }

    private static void keeps(int kind, String name, Act act) {
        PlanarFlow x = made(kind);
        String before = flowOf(x);
        act.on(x);
        Check.due(name + " keeps the FLOW of kind " + kind, flowOf(x).equals(before), true);
    }

    // Promise 5: no FLOW then, here and below, if it is no question
    private static void endsTheFlow() {
        for (int kind = 1; kind < 4; kind++) {
            ends(kind, "text", x -> x.text(8));
            ends(kind, "grid", x -> x.grid(3, 3));
            ends(kind, "slant", x -> x.slant(1, 1));
            ends(kind, "slant as it was", x -> x.slant(4, 2));
            ends(kind, "slant none as it was", x -> x.slant(1, 0));
            ends(kind, "bears", x -> x.bears(0, 1, 1));
            ends(kind, "bears as it was", x -> x.bears(0, 5, -1));
            ends(kind, "back", x -> x.back(1));
        }
    }

    private static void ends(int kind, String name, Act act) {
        PlanarFlow x = made(kind);
        Check.due("a FLOW of kind " + kind, x.count(6), 1);
        act.on(x);
        Check.noFlow(name + " behind kind " + kind, x);
        Check.due(name + " behind kind " + kind + ": ways(0)", x.ways(0), -1);
        Check.due(name + " behind kind " + kind + ": gave(0)", x.gave(0), -101);
        Check.due(name + " behind kind " + kind + ": rings(0)", x.rings(0), -1);
        Check.throwsNoSuch(name + " behind kind " + kind + ": excess(0)", () -> x.excess(0));
        Check.throwsNoSuch(name + " behind kind " + kind + ": left(0, 0)", () -> x.left(0, 0));
    }

    // Promise 15: by the latest flow(), gather(), meet()
    private static void putsAnotherFlow() {
        for (int kind = 0; kind < 4; kind++) {
            for (int then = 1; then < 4; then++) {
                PlanarFlow x = made(kind);
                if (then == 1) {
                    x.flow(0, 8);
                } else if (then == 2) {
                    x.gather(72, 8, 2);
                } else {
                    x.meet();
                }
                Check.due(then + " behind " + kind + " is as alone", all(x).equals(all(made(then))), true);
            }
        }
    }
}
