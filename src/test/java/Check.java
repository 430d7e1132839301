import java.util.NoSuchElementException;

/** What the tests have in common: due answers, exceptions and texts told through the tape. */
final class Check {
    /** A call that may throw. */
    interface Call {
        int answer();
    }

    private static int made = 0;
    private static int wrong = 0;

    private Check() {
    }

    static void due(String call, long got, long want) {
        made++;
        if (got != want) {
            wrong++;
            if (wrong <= 50) {
                System.out.println(call + " answered " + got + ", due is " + want);
            }
        }
    }

    static void due(String call, boolean got, boolean want) {
        due(call, got ? 1 : 0, want ? 1 : 0);
    }

    static void throwsNoSuch(String call, Call doing) {
        made++;
        try {
            int got = doing.answer();
            wrong++;
            System.out.println(call + " answered " + got + ", due is NoSuchElementException");
        } catch (NoSuchElementException expected) {
            return;
        }
    }

    static int wrongs() {
        return wrong;
    }

    /** Puts a text on the tape, filled up with blanks. */
    static void feed(PlanarFlow x, String text) {
        StringBuilder padded = new StringBuilder(text);
        while (padded.length() % 20 != 0) {
            padded.append(' ');
        }
        for (int at = 0; at < padded.length(); at += 20) {
            x.feed(word(padded, at), word(padded, at + 4), word(padded, at + 8), word(padded, at + 12),
                    word(padded, at + 16));
        }
    }

    private static int word(CharSequence text, int at) {
        return text.charAt(at) << 24 | text.charAt(at + 1) << 16 | text.charAt(at + 2) << 8 | text.charAt(at + 3);
    }

    static int tell(PlanarFlow x, String text) {
        feed(x, text);
        return x.text(text.length());
    }

    /** A new object with what a text tells. */
    static PlanarFlow told(String text) {
        PlanarFlow x = new PlanarFlow();
        due("text <" + text + ">", tell(x, text) >= 0, true);
        return x;
    }

    static void noFlow(String when, PlanarFlow x) {
        due(when + ": count(6)", x.count(6), 0);
        throwsNoSuch(when + ": on(0)", () -> x.on(0));
    }

    /** The answer to a text with a fault. */
    static int fault(int place, int kind) {
        return -2 - (8 * place + kind);
    }

    static void end(String name) {
        System.out.println(name + ": " + made + " answers, " + wrong + " not as due");
        if (wrong != 0 || made == 0) {
            System.exit(1);
        }
    }
}
