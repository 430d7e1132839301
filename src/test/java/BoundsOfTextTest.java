import java.nio.charset.StandardCharsets;

/** Promises 2 and 3 and the TEXT of the terms: every boundary that the document names, one by one. */
public final class BoundsOfTextTest {
    private static final int NONE = -1;

    public static void main(String[] args) {
        emptyTape();
        fullTape();
        refusedFeedLeavesTheBytes();
        longestText();
        partOfTheTape();
        notSoManyBytes();
        bytesOfNumbers();
        everyByteBetweenTokens();
        everyByteAtFirst();
        everyByteAtTheEnd();
        digitsOfWholes();
        sidesOfTheGrid();
        placesOfEdges();
        whatIsBorne();
        everyBreakOff();
        firstFromTheLeft();
        leastOfOnePlace();
        endIsItsPlace();
        linesAreCounted();
        allMeansThoseThatAreThereThen();
        laterLinesCount();
        elseAsAtFirst();
        allElseStaysBehindFault();
        Check.end("BoundsOfTextTest");
    }

    private static void says(String text, int want) {
        PlanarFlow x = new PlanarFlow();
        Check.due("text <" + text + ">", Check.tell(x, text), want);
        Check.due("THE TAPE is empty behind <" + text + ">", x.count(7), 0);
    }

    // Promise 3: an empty TAPE has no text, not even an empty one that would do
    private static void emptyTape() {
        PlanarFlow x = new PlanarFlow();
        Check.due("text(0) of an empty tape", x.text(0), Check.fault(0, 1));
        Check.due("text(1) of an empty tape", x.text(1), NONE);
        Check.due("text(-1) of an empty tape", x.text(-1), NONE);
        Check.feed(x, "grid 2 2");
        Check.due("text(0) of a tape with bytes", x.text(0), Check.fault(0, 1));
        Check.due("it is empty then", x.count(7), 0);
    }

    // Promise 2: 600 is not too many, 620 would be
    private static void fullTape() {
        PlanarFlow x = new PlanarFlow();
        for (int times = 1; times <= 30; times++) {
            Check.due("feed " + times, x.feed(0, 0, 0, 0, 0), 20 * times);
        }
        Check.due("feed 31", x.feed(0, 0, 0, 0, 0), NONE);
        Check.due("feed 32", x.feed(-1, -1, -1, -1, -1), NONE);
        Check.due("bytes", x.count(7), 600);
        Check.due("text(601)", x.text(601), NONE);
        Check.due("THE TAPE stays", x.count(7), 600);
        x.text(1);
        Check.due("room again", x.feed(0, 0, 0, 0, 0), 20);
    }

    // Promise 2: and none come
    private static void refusedFeedLeavesTheBytes() {
        PlanarFlow x = new PlanarFlow();
        Check.feed(x, longest());
        Check.due("refused", x.feed(-1, -1, -1, -1, -1), NONE);
        Check.due("the bytes are those that were", x.text(600), 74);
    }

    private static String longest() {
        return "grid 2 2" + ";all 1 1".repeat(74);
    }

    // Terms: a TEXT has at most 600 bytes
    private static void longestText() {
        says(longest(), 74);
        says(longest().substring(0, 599) + "x", Check.fault(599, 1));
        says(longest().substring(0, 599), Check.fault(599, 1));
        says("grid 2 2" + " ".repeat(591) + ";", Check.fault(600, 1));
        says("grid 2 2" + " \n".repeat(296), 0);
        says(" ".repeat(592) + "grid 2 2", 0);
    }

    // Promise 3: the first n bytes; THE TAPE is empty then, also of those behind
    private static void partOfTheTape() {
        PlanarFlow x = new PlanarFlow();
        Check.feed(x, "grid 2 2;all 1 1;all");
        Check.feed(x, "grid 4 4");
        Check.due("text(16)", x.text(16), 1);
        Check.due("empty", x.count(7), 0);
        Check.due("w", x.count(0), 2);
        Check.due("nothing is left", x.text(1), NONE);
        Check.feed(x, "grid 5 55");
        Check.due("n parts a token", x.text(8), 0);
        Check.due("h", x.count(1), 5);
        Check.feed(x, "grid 5 5");
        Check.due("n parts a word", x.text(3), Check.fault(0, 1));
        Check.feed(x, "grid 5 5");
        Check.due("all of it, with the blanks behind", x.text(20), 0);
    }

    // Promise 3: NONE: it has not so many, n is below 0 (THE TAPE stays)
    private static void notSoManyBytes() {
        PlanarFlow x = new PlanarFlow();
        Check.feed(x, "grid 4 2");
        for (int n : new int[] {21, 40, 600, 601, -1, -2, -20, Integer.MIN_VALUE, Integer.MAX_VALUE}) {
            Check.due("text(" + n + ")", x.text(n), NONE);
            Check.due("bytes behind text(" + n + ")", x.count(7), 20);
        }
        Check.due("w is as it was", x.count(0), 3);
        Check.due("its bytes are as they were", x.text(20), 0);
        Check.due("w is as told", x.count(0), 4);
    }

    // Promise 2: of each number the highest byte first, below 0 too
    private static void bytesOfNumbers() {
        PlanarFlow x = new PlanarFlow();
        x.feed(0x67726964, 0x20352034, 0x3B616C6C, 0x20392D39, 0x80FFFFFF);
        Check.due("all but the last four", x.text(16), 1);
        Check.due("w", x.count(0), 5);
        Check.due("h", x.count(1), 4);
        Check.due("BACK", x.edge(0, 3), -9);
        x.feed(0x67726964, 0x20352034, 0x3B616C6C, 0x20392D39, 0x80FFFFFF);
        Check.due("the byte 128 begins no TOKEN", x.text(17), Check.fault(16, 1));
        x.feed(0x20202020, 0x20202020, 0x20202020, 0x20202020, 0x202020FF);
        Check.due("the byte 255 begins no TOKEN", x.text(20), Check.fault(19, 1));
    }

    private static String withByte(String before, int value, String behind) {
        return before + new String(new byte[] {(byte) value}, StandardCharsets.ISO_8859_1) + behind;
    }

    // Terms: blanks (32, 10) part TOKENS and mean nothing else
    private static void everyByteBetweenTokens() {
        for (int value = 0; value < 256; value++) {
            int want = Check.fault(4, 1);
            if (value == 32 || value == 10 || value >= '0' && value <= '9') {
                want = 0;
            } else if (value == '-') {
                want = Check.fault(4, 2);
            } else if (value >= 'a' && value <= 'z') {
                want = Check.fault(0, 1);
            }
            says(withByte("grid", value, "2 2"), value >= '1' && value <= '9' ? Check.fault(4, 2) : want);
        }
    }

    // Terms: 1 the first byte that begins no TOKEN, TOKEN with which no such text goes on
    private static void everyByteAtFirst() {
        for (int value = 0; value < 256; value++) {
            boolean isBlank = value == 32 || value == 10;
            says(withByte("", value, "grid 2 2"), isBlank ? 0 : Check.fault(0, 1));
        }
    }

    // Terms: likewise behind a text that is whole
    private static void everyByteAtTheEnd() {
        for (int value = 0; value < 256; value++) {
            int want = Check.fault(8, 1);
            if (value == 32 || value == 10) {
                want = 0;
            } else if (value == ';') {
                want = Check.fault(9, 1);
            } else if (value >= '0' && value <= '9') {
                want = Check.fault(7, 2);
            }
            says(withByte("grid 2 2", value, ""), want);
        }
    }

    // Terms: perhaps -, 1 to 3 digits right behind that stand together
    private static void digitsOfWholes() {
        says("grid 2 2;all 9 9", 1);
        says("grid 2 2;all 09 99", 1);
        says("grid 2 2;all 009 099", 1);
        says("grid 002 002;all 000 -00", 1);
        says("grid 2 2;all 0009 9", Check.fault(13, 1));
        says("grid 2 2;all 9 0009", Check.fault(15, 1));
        says("grid 2 2;all 9 00000000000000000009", Check.fault(15, 1));
        says("grid 2 2;all 9 -009", 1);
        says("grid 2 2;all 9 -0009", Check.fault(15, 1));
        says("grid 2 2;all 9 - 9", Check.fault(15, 1));
        says("grid 2 2;all 9 -\n9", Check.fault(15, 1));
        says("grid 2 2;all 9 -", Check.fault(15, 1));
        says("grid 2 2;all 9 --9", Check.fault(15, 1));
        says("grid 2 2;all 9 -x", Check.fault(15, 1));
        says("grid 2 2;all 9 +9", Check.fault(15, 1));
        says("grid 2 2;all 9-9", 1);
        says("grid 2 2;all 9 9-", Check.fault(16, 1));
        says("grid 2 2;all9 9", 1);
        says("grid 2 2;all 999 9", Check.fault(13, 2));
        says("grid 2 2;all 9 -999", Check.fault(15, 2));
        says("grid 2 2;right -0 0 1 1", 1);
    }

    // Terms: a WHOLE out of bounds: w, h are 2 to 6
    private static void sidesOfTheGrid() {
        for (int side = -12; side <= 12; side++) {
            boolean good = side >= 2 && side <= 6;
            says("grid " + side + " 2", good ? 0 : Check.fault(5, 2));
            says("grid 6 " + side, good ? 0 : Check.fault(7, 2));
        }
        says("grid 999 2", Check.fault(5, 2));
        says("grid 2 -999", Check.fault(7, 2));
    }

    // Terms: X, Y of which there is no such EDGE: at the first of both that is none
    private static void placesOfEdges() {
        for (int w = 2; w <= 6; w++) {
            for (int h = 2; h <= 6; h++) {
                places(w, h, "right", w - 1, h);
                places(w, h, "down", w, h - 1);
                places(w, h, "slash", w - 1, h - 1);
                places(w, h, "back", w - 1, h - 1);
            }
        }
    }

    /** Of all X, Y only those below the two bounds are of an edge. */
    private static void places(int w, int h, String word, int xBound, int yBound) {
        for (int x = -1; x <= w + 1; x++) {
            for (int y = -1; y <= h + 1; y++) {
                String before = "grid " + w + " " + h + ";" + word + " ";
                int want = 1;
                if (x < 0 || x >= xBound) {
                    want = Check.fault(before.length(), 2);
                } else if (y < 0 || y >= yBound) {
                    want = Check.fault(before.length() + 2, 2);
                }
                says(before + x + " " + y + " 3 4", want);
            }
        }
    }

    // Terms: FORTH, BACK -99 to 99; together below 0: at BACK
    private static void whatIsBorne() {
        int[] some = {-999, -101, -100, -99, -98, -1, 0, 1, 98, 99, 100, 101, 999};
        for (String before : new String[] {"grid 3 3;all ", "grid 3 3;right 0 0 ", "grid 3 3;slash 1 1 "}) {
            for (int forth : some) {
                for (int back : some) {
                    String toBack = before + forth + " ";
                    int want = 1;
                    if (forth < -99 || forth > 99) {
                        want = Check.fault(before.length(), 2);
                    } else if (back < -99 || back > 99 || forth + back < 0) {
                        want = Check.fault(toBack.length(), 2);
                    }
                    says(toBack + back, want);
                }
            }
        }
    }

    // Terms: 1 .. TOKEN with which no such text goes on (the end: its place), wherever the text breaks off
    private static void everyBreakOff() {
        String text = "grid 4 3 ;\nall 12 -5;right 2 2 1 1;down 3 1 99 -99 ; slash 0 0 -7 7;back 2 1 0 00 ";
        for (int n = 0; n <= text.length(); n++) {
            PlanarFlow x = new PlanarFlow();
            Check.feed(x, text);
            TextModel read = new TextModel(text.substring(0, n));
            Check.due("the first " + n + " bytes", x.text(n), read.fault != 0 ? read.fault : read.lines);
        }
        says(text, 5);
    }

    // Terms: FAULTS, the first from the left
    private static void firstFromTheLeft() {
        says("grid 7 x", Check.fault(5, 2));
        says("grid x 7", Check.fault(5, 1));
        says("grid 7 7 7", Check.fault(5, 2));
        says("grid 2 2;all 100 x", Check.fault(13, 2));
        says("grid 2 2;all x 100", Check.fault(13, 1));
        says("grid 2 2;right 1 0 1 1 X", Check.fault(15, 2));
        says("grid 2 2;right 1", Check.fault(15, 2));
        says("grid 2 2;right 0 2", Check.fault(17, 2));
        says("grid 2 2;down 0 0 100 -100", Check.fault(18, 2));
        says("grid 2 2;all 1 -2;down 9 9 1 1", Check.fault(15, 2));
        says("grid 2 2;all 1 1 ?;down 9 9 1 1", Check.fault(17, 1));
        says("\001grid 9 9", Check.fault(0, 1));
    }

    // Terms: of one place the least
    private static void leastOfOnePlace() {
        says("999", Check.fault(0, 1));
        says("grid 2 2 999", Check.fault(9, 1));
        says("grid 2 2;all 1 1 -999", Check.fault(17, 1));
        says("grid 2 2;-999", Check.fault(9, 1));
        says("grid 9999 2", Check.fault(5, 1));
        says("grid 2 2;all 1 -1234", Check.fault(15, 1));
    }

    // Terms: (the end: its place): behind blanks too
    private static void endIsItsPlace() {
        says("", Check.fault(0, 1));
        says(" ", Check.fault(1, 1));
        says("grid", Check.fault(4, 1));
        says("grid\n\n", Check.fault(6, 1));
        says("grid 2", Check.fault(6, 1));
        says("grid 2 ", Check.fault(7, 1));
        says("grid 2 2;", Check.fault(9, 1));
        says("grid 2 2;all", Check.fault(12, 1));
        says("grid 2 2;all 1", Check.fault(14, 1));
        says("grid 2 2;back 0 0 1", Check.fault(19, 1));
        says("grid 2 2;back 0 0 1 1;", Check.fault(22, 1));
    }

    // Promise 3: how many LINES (behind grid)
    private static void linesAreCounted() {
        says("grid 2 2", 0);
        says("grid 2 2;all 0 0", 1);
        says("grid 2 2;all 0 0;all 0 0", 2);
        says("grid 2 2;right 0 0 1 1;down 0 0 1 1;slash 0 0 1 1;back 0 0 1 1;all 1 1", 5);
    }

    // Terms: all: of all EDGES that are there then
    private static void allMeansThoseThatAreThereThen() {
        PlanarFlow x = Check.told("grid 3 2;slash 0 0 3 4;all 5 6;back 1 0 7 8");
        Check.due("aslant already: FORTH", x.edge(2, 2), 5);
        Check.due("aslant already: BACK", x.edge(2, 3), 6);
        Check.due("aslant later: FORTH", x.edge(5, 2), 7);
        Check.due("aslant later: BACK", x.edge(5, 3), 8);
        for (int edge : new int[] {0, 1, 3, 4, 7, 9, 12}) {
            Check.due("FORTH of " + edge, x.edge(edge, 2), 5);
            Check.due("BACK of " + edge, x.edge(edge, 3), 6);
        }
        Check.due("all that is borne", x.count(5), 8 * 11 + 15);
        PlanarFlow none = Check.told("grid 3 2;all 5 6;slash 0 0 0 0");
        Check.due("none is aslant then", none.count(5), 7 * 11);
    }

    // Terms: slash, back: it is aslant so then
    private static void laterLinesCount() {
        PlanarFlow x = Check.told("grid 2 2;slash 0 0 3 4;back 0 0 5 6");
        Check.due("it comes from", x.edge(2, 0), 1);
        Check.due("it goes to", x.edge(2, 1), 2);
        Check.due("FORTH", x.edge(2, 2), 5);
        PlanarFlow y = Check.told("grid 2 2;back 0 0 5 6;slash 0 0 3 4;right 0 0 1 1;right 0 0 2 0");
        Check.due("it comes from", y.edge(2, 0), 0);
        Check.due("it goes to", y.edge(2, 1), 3);
        Check.due("BACK", y.edge(2, 3), 4);
        Check.due("the later line", y.edge(0, 2), 2);
        Check.due("the later line", y.edge(0, 3), 0);
    }

    private static PlanarFlow full() {
        PlanarFlow x = Check.told("grid 4 3;all 2 2;slash 1 1 5 6");
        x.supply(11, -8);
        x.supply(0, 9);
        x.image(1);
        x.flow(0, 11);
        return x;
    }

    // Promise 3: all is as it tells, else as at first (images stay)
    private static void elseAsAtFirst() {
        PlanarFlow x = full();
        Check.due("text", Check.tell(x, "grid 4 3;right 0 0 7 1"), 1);
        int[] due = {4, 3, 17, 7, 0, 8, 0, 0, 0, 0};
        for (int what = 0; what < due.length; what++) {
            Check.due("as at first: count(" + what + ")", x.count(what), due[what]);
        }
        Check.noFlow("behind a text", x);
        Check.due("the image that was not made", x.back(0), false);
        Check.due("the image that was made", x.back(1), true);
        Check.due("SUPPLY", x.count(8), 9);
        Check.due("aslant", x.edge(17, 2), 5);
    }

    // Promise 3: a FAULT (all else stays)
    private static void allElseStaysBehindFault() {
        PlanarFlow x = full();
        PlanarFlow same = full();
        String[] faults = {"", "grid 2 2;all 1 1;right 0 0 1 1;x", "grid 6 6;all 100 0", "grid 5 7",
            "grid 4 3;slash 0 0 1 1;back 1 1 1 1;all 3 3;"};
        for (String text : faults) {
            Check.due("fault", Check.tell(x, text) < -2, true);
            for (int what = 0; what < 10; what++) {
                Check.due("count(" + what + ") behind <" + text + ">", x.count(what), same.count(what));
            }
            for (int edge = 0; edge < 36; edge++) {
                for (int what = 0; what < 6; what++) {
                    Check.due("edge behind <" + text + ">", x.edge(edge, what), same.edge(edge, what));
                }
            }
            Check.due("the FLOW behind <" + text + ">", x.on(17), same.on(17));
            Check.due("its WAYS behind <" + text + ">", x.ways(0), same.ways(0));
            Check.due("no image behind <" + text + ">", x.back(0), false);
        }
    }
}
