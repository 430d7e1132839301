import java.util.NoSuchElementException;
import java.util.Random;

/** Random runs of calls, every answer against the model; the seeds are fixed, so every run is the same again. */
public final class OracleTest {
    private static final String[] WORDS = {"grid", "all", "right", "down", "slash", "back"};

    private final Random random;
    private final PlanarFlow x = new PlanarFlow();
    private final Mirror mirror = new Mirror();
    private final String run;
    private final int temper;

    private OracleTest(long seed) {
        random = new Random(seed);
        run = "run " + seed + ": ";
        temper = random.nextInt(4);
    }

    public static void main(String[] args) {
        int runs = args.length > 1 ? Integer.parseInt(args[1]) : 260;
        for (int seed = 0; seed < runs && Check.wrongs() == 0; seed++) {
            new OracleTest(seed).play(90);
        }
        Check.end("OracleTest");
    }

    private void play(int calls) {
        begin();
        for (int i = 0; i < calls; i++) {
            if (random.nextInt(8) == 0) {
                change();
            } else {
                ask();
            }
        }
    }

    /** A grid whose edges mostly bear something, told by calls or by a text. */
    private void begin() {
        if (random.nextInt(3) == 0) {
            tellText(soundText());
            return;
        }
        int side = random.nextInt(5) == 0 ? 6 : 4;
        int w = 2 + random.nextInt(side - 1);
        int h = 2 + random.nextInt(side - 1);
        same("grid", x.grid(w, h), mirror.grid(w, h), w, h);
        for (int node = 0; node < w * h; node++) {
            if (random.nextInt(2) == 0) {
                slant(node, random.nextInt(3));
            }
        }
        for (int edge = 0; edge < 3 * w * h; edge++) {
            if (random.nextInt(8) != 0) {
                bears(edge, amount(), amount());
            }
        }
    }

    private int amount() {
        switch (temper) {
            case 0: return random.nextInt(4);
            case 1: return random.nextInt(100);
            case 2: return random.nextInt(10) == 0 ? -random.nextInt(3) : random.nextInt(8);
            default: return random.nextInt(4) == 0 ? -random.nextInt(6) : random.nextInt(12);
        }
    }

    private int near(int bound) {
        int odd = random.nextInt(24);
        if (odd == 0) {
            return -1 - random.nextInt(3);
        }
        if (odd == 1) {
            return bound + random.nextInt(3);
        }
        if (odd == 2) {
            return random.nextBoolean() ? Integer.MIN_VALUE : Integer.MAX_VALUE;
        }
        return random.nextInt(bound);
    }

    private int anyNode() {
        return near(mirror.m.w * mirror.m.h);
    }

    private int anyEdge() {
        return near(3 * mirror.m.w * mirror.m.h);
    }

    private int anyFace() {
        if (random.nextInt(12) == 0) {
            return near(73);
        }
        Integer[] faces = mirror.m.faces().toArray(new Integer[0]);
        return faces[random.nextInt(faces.length)];
    }

    private void change() {
        switch (random.nextInt(9)) {
            case 0: slant(anyNode(), near(3)); break;
            case 1: case 2: case 3: bears(anyEdge(), amount(), amount()); break;
            case 4: bears(anyEdge(), near(103), near(103)); break;
            case 5: {
                int i = near(2);
                same("image", x.image(i) ? 1 : 0, mirror.image(i), i);
                break;
            }
            case 6: {
                int i = near(2);
                same("back", x.back(i) ? 1 : 0, mirror.back(i), i);
                break;
            }
            case 7: tellText(random.nextBoolean() ? soundText() : spoilt(soundText())); break;
            default: {
                int w = random.nextInt(3) == 0 ? near(8) : 3;
                int h = random.nextInt(3) == 0 ? near(8) : 7;
                same("grid", x.grid(w, h), mirror.grid(w, h), w, h);
                break;
            }
        }
    }

    private void slant(int node, int how) {
        same("slant", x.slant(node, how), mirror.slant(node, how), node, how);
    }

    private void bears(int edge, int forth, int back) {
        same("bears", x.bears(edge, forth, back) ? 1 : 0, mirror.bears(edge, forth, back), edge, forth, back);
    }

    private void ask() {
        int which = random.nextInt(30);
        int s = anyNode();
        int t = anyNode();
        int face = anyFace();
        int other = anyFace();
        int edge = anyEdge();
        int i = random.nextInt(9) - 2;
        int side = near(2);
        int what = near(10);
        if (which < 12) {
            askShape(which, face, other, edge, what, i);
        } else if (which < 22) {
            askFlow(which, s, t, edge, side, i, what);
        } else {
            askTrial(which, s, t, edge, near(3));
        }
    }

    private void askShape(int which, int face, int other, int edge, int what, int i) {
        switch (which) {
            case 0: case 1: same("edge", x.edge(edge, what % 6), mirror.edge(edge, what % 6), edge, what % 6); break;
            case 2: same("around", calling(() -> x.around(face)), mirror.around(face), face); break;
            case 3: case 4:
                same("distance", calling(() -> x.distance(face, other)), mirror.distance(face, other), face, other);
                break;
            case 5: case 6: case 7:
                same("route", x.route(face, other, i), mirror.route(face, other, i), face, other, i);
                break;
            case 8: same("circulates", x.circulates(), mirror.circulates()); break;
            case 9: same("potential", calling(() -> x.potential(face)), mirror.potential(face), face); break;
            case 10: same("ring", x.ring(i), mirror.ring(i), i); break;
            default: same("count", x.count(what), mirror.count(what), what); break;
        }
    }

    private void askFlow(int which, int s, int t, int edge, int side, int i, int what) {
        switch (which) {
            case 12: case 13:
                same("flow", x.flow(s, t), mirror.flow(s, t), s, t);
                compareFlow();
                break;
            case 14: same("on", calling(() -> x.on(edge)), mirror.on(edge), edge); break;
            case 15: same("left", calling(() -> x.left(edge, side)), mirror.left(edge, side), edge, side); break;
            case 16: same("ways", x.ways(what % 6), mirror.ways(what % 6), what % 6); break;
            case 17: same("excess", calling(() -> x.excess(s)), mirror.excess(s), s); break;
            case 18: case 19: same("cut", x.cut(side, i), mirror.cut(side, i), side, i); break;
            case 20: same("rings", x.rings(side), mirror.rings(side), side); break;
            default: same("shared", x.shared(s, t), mirror.shared(s, t), s, t); break;
        }
    }

    private void askTrial(int which, int s, int t, int edge, int what) {
        switch (which) {
            case 22: case 23: {
                int face = anyFace();
                int each = random.nextInt(6) == 0 ? near(1001) : 1 + random.nextInt(12);
                same("gather", x.gather(face, t, each), mirror.gather(face, t, each), face, t, each);
                compareFlow();
                break;
            }
            case 24: case 25: {
                int amount = random.nextInt(8) == 0 ? near(102) : random.nextInt(41) - 20;
                same("supply", x.supply(s, amount), mirror.supply(s, amount), s, amount);
                break;
            }
            case 26:
                same("meet", x.meet(), mirror.meet());
                compareFlow();
                break;
            case 27: same("gave", x.gave(s), mirror.gave(s), s); break;
            case 28: same("were", x.were(edge, what, s, t), mirror.were(edge, what, s, t), edge, what, s, t); break;
            default:
                if (random.nextInt(3) > 0) {
                    same("worst", x.worst(s, what), mirror.worst(s, what), s, what);
                } else if (mirror.m.w * mirror.m.h <= 16) {
                    same("counts", x.counts(what, s, t), mirror.counts(what, s, t), what, s, t);
                }
                break;
        }
    }

    /** Every edge and node of the flow, and that it keeps within what is borne. */
    private void compareFlow() {
        for (int edge = 0; edge < 3 * mirror.m.w * mirror.m.h; edge++) {
            int e = edge;
            same("on", calling(() -> x.on(e)), mirror.on(e), e);
        }
        for (int what = 0; what < 5; what++) {
            same("ways", x.ways(what), mirror.ways(what), what);
        }
        for (int node = 0; node < mirror.m.w * mirror.m.h; node++) {
            same("gave", x.gave(node), mirror.gave(node), node);
        }
        for (int side = 0; side < 2; side++) {
            same("rings", x.rings(side), mirror.rings(side), side);
            int size = mirror.cut(side, -1);
            for (int i = -2; i <= size; i++) {
                same("cut", x.cut(side, i), mirror.cut(side, i), side, i);
            }
        }
    }

    private String soundText() {
        int w = 2 + random.nextInt(3);
        int h = 2 + random.nextInt(3);
        StringBuilder text = new StringBuilder("grid " + w + " " + h);
        int lines = random.nextInt(12);
        for (int k = 0; k < lines; k++) {
            String word = WORDS[1 + random.nextInt(5)];
            text.append(random.nextBoolean() ? ";" : " ; ").append(word).append(random.nextBoolean() ? " " : "\n");
            if (!word.equals("all")) {
                int x0 = random.nextInt(word.equals("down") ? w : w - 1);
                int y0 = random.nextInt(word.equals("right") ? h : h - 1);
                text.append(x0).append(' ').append(y0).append(' ');
            }
            int forth = random.nextInt(30) - 5;
            text.append(forth).append(' ').append(Math.max(-forth, random.nextInt(20) - 4));
        }
        return text.toString();
    }

    private String spoilt(String text) {
        StringBuilder spoilt = new StringBuilder(text);
        String signs = "0123456789-; \nagrdxZ\t";
        for (int k = 0; k <= random.nextInt(2); k++) {
            int at = random.nextInt(spoilt.length());
            char sign = signs.charAt(random.nextInt(signs.length()));
            switch (random.nextInt(4)) {
                case 0: spoilt.setCharAt(at, sign); break;
                case 1: spoilt.insert(at, sign); break;
                case 2: spoilt.deleteCharAt(at); break;
                default: spoilt.setLength(at + 1); break;
            }
        }
        return spoilt.toString();
    }

    private void tellText(String text) {
        StringBuilder padded = new StringBuilder(text);
        while (padded.length() % 20 != 0) {
            padded.append((char) random.nextInt(256));
        }
        for (int at = 0; at < padded.length(); at += 20) {
            int[] five = new int[5];
            for (int k = 0; k < 20; k++) {
                five[k / 4] = five[k / 4] << 8 | padded.charAt(at + k);
            }
            same("feed", x.feed(five[0], five[1], five[2], five[3], five[4]), mirror.feed(five));
        }
        int n = random.nextInt(20) == 0 ? near(600) : text.length();
        same("text <" + text + ">", x.text(n), mirror.text(n), n);
        for (int edge = 0; edge < 3 * mirror.m.w * mirror.m.h; edge++) {
            for (int what = 0; what < 6; what++) {
                same("edge", x.edge(edge, what), mirror.edge(edge, what), edge, what);
            }
        }
    }

    private static int calling(Check.Call call) {
        try {
            return call.answer();
        } catch (NoSuchElementException expected) {
            return Model.THROWS;
        }
    }

    private void same(String call, int got, int want, int... args) {
        Check.due(run + call + java.util.Arrays.toString(args), got, want);
    }
}
