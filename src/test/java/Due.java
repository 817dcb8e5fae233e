import java.nio.charset.StandardCharsets;

/** What the tests share: the count of wrong answers, and texts laid with one call. */
final class Due {
    private static int wrong = 0;

    private Due() { }

    static void is(String call, long got, long want) {
        if (got == want) return;
        wrong++;
        System.out.println(call + " answered " + got + ", due is " + want);
    }

    static void holds(String what, boolean true_) {
        if (true_) return;
        wrong++;
        System.out.println("does not hold: " + what);
    }

    static void end(String test) {
        System.out.println(test + ": " + (wrong == 0 ? "all answers are as due" : wrong + " answers are not as due"));
        if (wrong != 0) System.exit(1);
    }

    static void put(EnoughGive x, String text) {
        byte[] bytes = text.getBytes(StandardCharsets.ISO_8859_1);
        for (byte b : bytes) x.write(1, b);
    }

    static EnoughGive written(String text) {
        EnoughGive x = new EnoughGive();
        put(x, text);
        return x;
    }

    static EnoughGive laid(String text) {
        EnoughGive x = written(text);
        int answer = x.lay();
        holds("'" + text + "' is laid (" + answer + ", fault " + x.fault() + ")", answer > 0);
        return x;
    }
}
