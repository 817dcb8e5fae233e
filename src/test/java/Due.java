import java.nio.charset.StandardCharsets;

/** What the tests share: the count of wrong answers, and texts laid with one call. */
final class Due {
    private static int wrong = 0;

    private Due() { }

    static void is(String call, long got, long want) {
        if (got == want) return;
        wrong++;
        System.out.println(call + " answered " + got + ", due is " + want);
    }

    static void holds(String what, boolean true_) {
        if (true_) return;
        wrong++;
        System.out.println("does not hold: " + what);
    }

    static void end(String test) {
        System.out.println(test + ": " + (wrong == 0 ? "all answers are as due" : wrong + " answers are not as due"));
        if (wrong != 0) System.exit(1);
    }

    static void put(EnoughGive x, String text) {
        byte[] bytes = text.getBytes(StandardCharsets.ISO_8859_1);
        // By eights, for an object answers 512 calls and no more.
        for (int at = 0; at < bytes.length; at += 8) {
            int n = Math.min(8, bytes.length - at);
            long v = 0;
            for (int k = 0; k < n; k++) v = v << 8 | bytes[at + k] & 255;
            x.write(n, v);
        }
    }

    static void fault(String text, int want) {
        is("fault() of " + text, written(text).fault(), want);
    }

    /** The gift of a giver whose worth is the same on every evening. */
    static void gives(String text, int i, int want) {
        is("gift of " + i + " by " + text, laid(text).evening(0, i, 0), want);
    }

    /** What a giver has whose worth is the same on every evening. */
    static void has(String text, int i, int want) {
        is("what " + i + " has by " + text, laid(text).evening(0, i, 1), want);
    }

    /** 1 if it is built, whatever the draws are. */
    static void built(String text, int want) {
        is("built by " + text, laid(text).whole(0, 1), want);
    }

    static EnoughGive written(String text) {
        EnoughGive x = new EnoughGive();
        put(x, text);
        return x;
    }

    static EnoughGive laid(String text) {
        EnoughGive x = written(text);
        int answer = x.lay();
        holds("'" + text + "' is laid (" + answer + ", fault " + x.fault() + ")", answer > 0);
        return x;
    }
}
