import java.util.Random;

/** Runs of calls by a fixed seed: the class and the plain model must answer alike, and nothing may be thrown. */
public final class RandomRunsTest {
    private static final int RUNS = 900, CALLS = 80;
    private static final long MOST_ROWS = 20_000;
    private static final int[] WILD = {-1, -2, 31, 61, 99, 100, 300, 9999, 10000, Integer.MIN_VALUE, Integer.MAX_VALUE};
    private final Random random;
    private int width;

    private RandomRunsTest(long seed) {
        random = new Random(seed);
    }

    private int upTo(int high) {
        return random.nextInt(high + 1);
    }

    private int from(int low, int high) {
        return low + random.nextInt(high - low + 1);
    }

    /** Mostly from the range, now and then far from it. */
    private int near(int low, int high) {
        if (random.nextInt(25) == 0) return WILD[random.nextInt(WILD.length)];
        return from(low, high);
    }

    private String worths(int sort) {
        StringBuilder s = new StringBuilder();
        int left = 10;
        int n = from(1, width);
        for (int k = 0; k < n && left > 0; k++) {
            int tenths = k == n - 1 ? left : from(1, left);
            s.append("w").append(sort).append(",").append(upTo(30)).append(",").append(tenths).append(";");
            left -= tenths;
        }
        if (random.nextInt(3) == 0) s.append("t").append(sort).append(",").append(upTo(30)).append(";");
        return s.toString();
    }

    private String text() {
        StringBuilder s = new StringBuilder();
        boolean few = random.nextInt(3) > 0;
        width = few ? 3 : from(1, 3);
        if (random.nextInt(8) > 0) s.append("b").append(from(1, random.nextBoolean() ? 30 : 60)).append(",").append(upTo(few ? 3 : 8)).append(";");
        if (random.nextInt(3) > 0) s.append("d").append(upTo(random.nextBoolean() ? 12 : 30)).append(";");
        if (random.nextInt(3) > 0) s.append("c").append(upTo(random.nextBoolean() ? 60 : 199)).append(";");
        if (random.nextInt(2) > 0) s.append("p").append(upTo(9)).append(";");
        if (random.nextInt(2) > 0) s.append("e").append(upTo(9)).append(",").append(upTo(12)).append(";");
        if (random.nextInt(2) > 0) s.append("o").append(upTo(1)).append(";");
        if (random.nextInt(2) > 0) s.append("s").append(from(1, random.nextBoolean() ? 20 : 60)).append(",").append(upTo(99)).append(";");
        int sorts = from(1, few ? 3 : 6);
        int givers = few ? from(1, 4) : 8;
        for (int k = 0; k < sorts && givers > 0; k++) {
            int n = k == sorts - 1 && random.nextBoolean() ? givers : from(1, givers);
            givers -= n;
            s.append("g").append(n).append(",").append(upTo(5)).append(",").append(upTo(30)).append(",")
                .append(upTo(random.nextInt(4) == 0 ? 30 : 8)).append(",").append(upTo(random.nextBoolean() ? 2 : 9)).append(";");
            s.append(worths(k));
        }
        return random.nextInt(6) == 0 ? spoilt(s) : s.toString();
    }

    /** With one sign changed, left out or put in. */
    private String spoilt(StringBuilder s) {
        int at = random.nextInt(s.length());
        String signs = "0123456789,;bdcpeogwtsz ";
        char sign = random.nextInt(20) == 0 ? (char) upTo(255) : signs.charAt(random.nextInt(signs.length()));
        switch (random.nextInt(3)) {
            case 0: s.setCharAt(at, sign); break;
            case 1: s.deleteCharAt(at); break;
            default: s.insert(at, sign);
        }
        return s.toString();
    }

    private void write(EnoughGive x, PlainModel m, String text) {
        int at = 0;
        while (at < text.length()) {
            int n = Math.min(from(1, 8), text.length() - at);
            long v = random.nextLong();
            for (int k = 0; k < n; k++) v = v << 8 | text.charAt(at + k);
            Due.is("write", x.write(n, v), m.write(n, v));
            at += n;
        }
    }

    private void lay(EnoughGive x, PlainModel m) {
        if (random.nextInt(8) > 0) Due.is("wipe()", x.wipe(), m.wipe());
        write(x, m, text());
        Due.is("fault()", x.fault(), m.fault());
        Due.is("lay()", x.lay(), m.lay());
        for (int i = 0; i < 8; i++) {
            for (int what = 0; what < 4; what++) Due.is("giver", x.giver(i, what), m.giver(i, what));
        }
        for (int what = 0; what < 7; what++) Due.is("count", x.count(what), m.count(what));
    }

    private void call(EnoughGive x, PlainModel m) {
        int a = near(0, 2);
        int i = near(0, 8);
        switch (random.nextInt(28)) {
            case 0: lay(x, m); break;
            case 1: { int n = near(0, 9); long v = random.nextLong(); Due.is("write", x.write(n, v), m.write(n, v)); break; }
            case 2: Due.is("wipe()", x.wipe(), m.wipe()); break;
            case 3: Due.is("fault()", x.fault(), m.fault()); break;
            case 4: Due.is("lay()", x.lay(), m.lay()); break;
            case 5: Due.is("giver", x.giver(i, a), m.giver(i, a)); break;
            case 6: case 27: Due.is("show", x.show(a), m.show(a)); break;
            case 7: Due.is("odds", x.odds(a), m.odds(a)); break;
            case 8: Due.is("mean", x.mean(i, a), m.mean(i, a)); break;
            case 9: Due.is("wrong", x.wrong(a), m.wrong(a)); break;
            case 10: { int g = near(0, 30); Due.is("row", x.row(i, g), m.row(i, g)); break; }
            case 11: judgeAndMend(x, m); break;
            case 12: Due.is("made", x.made(a), m.made(a)); break;
            case 13: rests(x, m, near(-1, 8)); break;
            case 14: Due.is("bestBar", x.bestBar(a), m.bestBar(a)); break;
            case 15: Due.is("bestDay", x.bestDay(), m.bestDay()); break;
            case 16: { int q = near(0, 10); Due.is("extra", x.extra(q), m.extra(q)); break; }
            case 17: Due.is("bestShow", x.bestShow(), m.bestShow()); break;
            case 18: { int r = near(0, 99), d = near(0, 12); Due.is("rich", x.rich(r, d), m.rich(r, d)); break; }
            case 19: { int r = near(0, 40); Due.is("richDay", x.richDay(r), m.richDay(r)); break; }
            case 20: Due.is("two", x.two(a), m.two(a)); break;
            case 21: case 22: { int z = near(0, 9999); Due.is("evening", x.evening(z, i, a), m.evening(z, i, a)); break; }
            case 23: { int z = near(0, 9999); Due.is("whole", x.whole(z, a), m.whole(z, a)); break; }
            case 24: Due.is("keep()", x.keep(), m.keep()); break;
            case 25: Due.is("back()", x.back(), m.back()); break;
            default: { int what = near(0, 7); Due.is("count", x.count(what), m.count(what)); }
        }
    }

    /** Judges again and again, with the judged gift told otherwise, so that the later ones are judged too. */
    private void judgeAndMend(EnoughGive x, PlainModel m) {
        for (int k = 0; k < 60; k++) {
            int judged = x.judge();
            Due.is("judge()", judged, m.judge());
            if (judged < 0) return;
            int gift = random.nextInt(31);
            for (int g = 0; g < 31; g++) {
                m.row(judged, g);
                if (m.judge() != judged) gift = g;
            }
            m.row(judged, gift);
            x.row(judged, gift);
        }
    }

    private void rests(EnoughGive x, PlainModel m, int i) {
        if (m.rows() > MOST_ROWS) {
            x.just(i);
            x.fails();
            return;
        }
        Due.is("just", x.just(i), m.just(i));
        Due.is("just(-1)", x.just(-1), m.just(-1));
        Due.is("fails()", x.fails(), m.fails());
    }

    public static void main(String[] args) {
        for (int run = 0; run < RUNS; run++) {
            RandomRunsTest test = new RandomRunsTest(run);
            EnoughGive x = new EnoughGive();
            PlainModel m = new PlainModel();
            if (run % 10 > 0) test.lay(x, m);
            for (int k = 0; k < CALLS; k++) test.call(x, m);
        }
        Due.end("random runs");
    }
}
