import java.util.ArrayList;
import java.util.List;
import java.util.regex.Matcher;
import java.util.regex.Pattern;

/** A text read a second way: all tokens first, by patterns; then all faults, of which the first counts. */
final class TextModel {
    private static final Pattern TOKEN = Pattern.compile("[a-z]+|-?(?<![0-9])[0-9]{1,3}(?![0-9])|;");

    final Model told = new Model();
    int lines = 0;
    int fault = 0;
    private final String text;
    private final List<String> tokens = new ArrayList<>();
    private final List<Integer> places = new ArrayList<>();

    TextModel(String text) {
        this.text = text;
        cutUp();
        String shape = shape();
        int fits = fitting(shape);
        for (int i = 0; i < fits && fault == 0; i++) {
            judge(i, shape);
        }
        if (fault == 0 && (fits < tokens.size() || !isWhole(shape))) {
            fault = -2 - (8 * (fits < tokens.size() ? places.get(fits) : text.length()) + 1);
        }
    }

    /** A byte that begins no token is kept as the token ?, which fits nowhere. */
    private void cutUp() {
        Matcher matcher = TOKEN.matcher(text);
        int at = 0;
        while (at < text.length()) {
            if (text.charAt(at) == ' ' || text.charAt(at) == '\n') {
                at++;
                continue;
            }
            boolean begins = matcher.region(at, text.length()).useTransparentBounds(true).lookingAt();
            tokens.add(begins ? matcher.group() : "?");
            places.add(at);
            if (!begins) {
                return;
            }
            at = matcher.end();
        }
    }

    /** One sign a token: g grid, a all, o another known word, 0 a whole, ; and ? for what is none. */
    private String shape() {
        StringBuilder shape = new StringBuilder();
        for (String token : tokens) {
            if (token.equals("grid")) {
                shape.append('g');
            } else if (token.equals("all")) {
                shape.append('a');
            } else if (List.of("right", "down", "slash", "back").contains(token)) {
                shape.append('o');
            } else if (token.matches("-?[0-9]+")) {
                shape.append('0');
            } else {
                shape.append(token.equals(";") ? ';' : '?');
            }
        }
        return shape.toString();
    }

    private static boolean isWhole(String shape) {
        return shape.matches("g00(;(a00|o0000))*");
    }

    /** How many tokens from the first on are the beginning of some text. */
    private static int fitting(String shape) {
        int fits = 0;
        while (fits < shape.length() && begins(shape.substring(0, fits + 1))) {
            fits++;
        }
        return fits;
    }

    private static boolean begins(String shape) {
        for (String rest : new String[] {"", "0", "00", "000", "0000", "g00", "a00"}) {
            if (isWhole(shape + rest)) {
                return true;
            }
        }
        return false;
    }

    private int whole(int i) {
        return Integer.parseInt(tokens.get(i));
    }

    private void outOfBounds(int i) {
        fault = -2 - (8 * places.get(i) + 2);
    }

    private void judge(int i, String shape) {
        if (shape.charAt(i) != '0') {
            lines += shape.charAt(i) == ';' ? 1 : 0;
            return;
        }
        int word = Math.max(shape.lastIndexOf('g', i), Math.max(shape.lastIndexOf('a', i), shape.lastIndexOf('o', i)));
        int nth = i - word - 1;
        int value = whole(i);
        String name = tokens.get(word);
        if (name.equals("grid")) {
            if (value < 2 || value > 6) {
                outOfBounds(i);
            }
            told.w = nth == 0 ? value : told.w;
            told.h = nth == 1 ? value : told.h;
            return;
        }
        int first = name.equals("all") ? 0 : 2;
        if (nth < first) {
            int room = nth == 0 ? told.w : told.h;
            boolean full = name.equals("down") && nth == 0 || name.equals("right") && nth == 1;
            if (value < 0 || value >= (full ? room : room - 1)) {
                outOfBounds(i);
            }
            return;
        }
        if (value < -99 || value > 99 || nth == first + 1 && value + whole(i - 1) < 0) {
            outOfBounds(i);
        } else if (nth == first + 1) {
            apply(name, word);
        }
    }

    private void apply(String name, int word) {
        if (name.equals("all")) {
            for (int edge : told.edges().keySet()) {
                told.bears.put(edge, new int[] {whole(word + 1), whole(word + 2)});
            }
            return;
        }
        int node = whole(word + 2) * told.w + whole(word + 1);
        int kind = name.equals("right") ? 0 : name.equals("down") ? 1 : 2;
        if (kind == 2) {
            told.slants.put(node, name.equals("slash") ? 1 : 2);
        }
        told.bears.put(3 * node + kind, new int[] {whole(word + 3), whole(word + 4)});
    }
}
