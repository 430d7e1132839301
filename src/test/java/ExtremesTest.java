import java.util.NoSuchElementException;

/** Every call with every mix of arguments near and far from its bounds, in several states, against the model. */
public final class ExtremesTest {
    private static final int[] SOME = {Integer.MIN_VALUE, Integer.MIN_VALUE + 1, -1431655766, -1 << 30, -1000, -101,
        -100, -99, -3, -2, -1, 0, 1, 2, 3, 4, 5, 6, 7, 8, 9, 10, 11, 12, 24, 35, 36, 37, 71, 72, 73, 99, 100, 101, 107,
        108, 109, 600, 601, 999, 1000, 1 << 30, 1431655765, Integer.MAX_VALUE - 1, Integer.MAX_VALUE};
    private static final int[] FEW = {Integer.MIN_VALUE, -101, -2, -1, 0, 1, 2, 3, 8, 9, 72, 99, 100,
        Integer.MAX_VALUE};

    private final PlanarFlow x = new PlanarFlow();
    private final Mirror mirror = new Mirror();
    private final String state;

    private ExtremesTest(int state) {
        this.state = "state " + state + ": ";
        int side = state % 2 == 0 ? 3 : 2;
        grid(3, side);
        slant(0, 1);
        slant(1, state % 3);
        for (int edge = 0; edge < 27; edge++) {
            bears(edge, edge % 4 + 1, edge % 5 + 1);
        }
        if (state >= 4) {
            bears(0, 9, -9);
        }
        supply(0, 9);
        supply(1, -4);
        supply(5, -9);
        if (state == 1) {
            same("flow", x.flow(0, 5), mirror.flow(0, 5));
        } else if (state == 2) {
            same("gather", x.gather(72, 4, 3), mirror.gather(72, 4, 3));
        } else if (state == 3) {
            same("meet", x.meet(), mirror.meet());
        }
    }

    public static void main(String[] args) {
        for (int state = 0; state < 6; state++) {
            ExtremesTest test = new ExtremesTest(state);
            for (int a : SOME) {
                test.one(a);
                for (int b : SOME) {
                    test.two(a, b);
                }
            }
            for (int a : FEW) {
                for (int b : FEW) {
                    for (int c : FEW) {
                        test.three(a, b, c);
                    }
                }
            }
        }
        for (int state = 0; state < 6; state++) {
            new ExtremesTest(state).changes();
        }
        Check.end("ExtremesTest");
    }

    private void grid(int w, int h) {
        same("grid", x.grid(w, h), mirror.grid(w, h), w, h);
    }

    private void slant(int node, int how) {
        same("slant", x.slant(node, how), mirror.slant(node, how), node, how);
    }

    private void bears(int edge, int forth, int back) {
        same("bears", x.bears(edge, forth, back) ? 1 : 0, mirror.bears(edge, forth, back), edge, forth, back);
    }

    private void supply(int node, int amount) {
        same("supply", x.supply(node, amount), mirror.supply(node, amount), node, amount);
    }

    private void one(int a) {
        same("around", calling(() -> x.around(a)), mirror.around(a), a);
        same("potential", calling(() -> x.potential(a)), mirror.potential(a), a);
        same("ring", x.ring(a), mirror.ring(a), a);
        same("on", calling(() -> x.on(a)), mirror.on(a), a);
        same("ways", x.ways(a), mirror.ways(a), a);
        same("excess", calling(() -> x.excess(a)), mirror.excess(a), a);
        same("rings", x.rings(a), mirror.rings(a), a);
        same("gave", x.gave(a), mirror.gave(a), a);
        same("count", x.count(a), mirror.count(a), a);
    }

    private void two(int a, int b) {
        same("edge", x.edge(a, b), mirror.edge(a, b), a, b);
        same("distance", calling(() -> x.distance(a, b)), mirror.distance(a, b), a, b);
        same("left", calling(() -> x.left(a, b)), mirror.left(a, b), a, b);
        same("cut", x.cut(a, b), mirror.cut(a, b), a, b);
        same("shared", x.shared(a, b), mirror.shared(a, b), a, b);
        same("worst", x.worst(a, b), mirror.worst(a, b), a, b);
    }

    private void three(int a, int b, int c) {
        same("route", x.route(a, b, c), mirror.route(a, b, c), a, b, c);
        same("counts", x.counts(a, b, c), mirror.counts(a, b, c), a, b, c);
        same("were", x.were(a, b, c, 1), mirror.were(a, b, c, 1), a, b, c, 1);
        same("were", x.were(0, a, b, c), mirror.were(0, a, b, c), 0, a, b, c);
    }

    /** Calls that may change something, every time with all that is asked of the count. */
    private void changes() {
        for (int a : SOME) {
            same("text", x.text(a), mirror.text(a), a);
            for (int b : SOME) {
                same("flow", x.flow(a, b), mirror.flow(a, b), a, b);
                same("gather", x.gather(a, 4, b), mirror.gather(a, 4, b), a, 4, b);
                same("gather", x.gather(72, a, b), mirror.gather(72, a, b), 72, a, b);
                supply(a, b);
                slant(a, b);
                bears(0, a, b);
                bears(a, b, 3);
                counts();
            }
        }
        for (int a : SOME) {
            same("image", x.image(a) ? 1 : 0, mirror.image(a), a);
            same("back", x.back(a) ? 1 : 0, mirror.back(a), a);
            for (int b : SOME) {
                grid(a, b);
                counts();
            }
        }
    }

    private void counts() {
        for (int what = 0; what < 10; what++) {
            same("count", x.count(what), mirror.count(what), what);
        }
    }

    private static int calling(Check.Call call) {
        try {
            return call.answer();
        } catch (NoSuchElementException expected) {
            return Model.THROWS;
        }
    }

    private void same(String call, int got, int want, int... args) {
        if (got != want) {
            Check.due(state + call + java.util.Arrays.toString(args), got, want);
        } else {
            Check.due(call, got, want);
        }
    }
}
