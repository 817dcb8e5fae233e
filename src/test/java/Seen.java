import java.util.StringJoiner;

/** All that an object answers, as one line: two objects that answer alike are as one behind the calls that made them. */
final class Seen {
    private Seen() { }

    /** Looks without changing anything: what is told or shown for a look is told or shown again as it was. */
    static String of(EnoughGive x) {
        StringJoiner s = new StringJoiner(" ");
        for (int what = 0; what < 7; what++) s.add("c" + what + "=" + x.count(what));
        s.add("fault=" + x.fault());
        int givers = x.count(0);
        for (int i = 0; i < givers; i++) seeGiver(x, i, s);
        int how = x.show(0);
        x.show(how);
        s.add("shown=" + how);
        for (int what = 0; what < 3; what++) s.add("odds" + what + "=" + x.odds(what)).add("two" + what + "=" + x.two(what));
        for (int what = 0; what < 2; what++) {
            s.add("wrong" + what + "=" + x.wrong(what)).add("made" + what + "=" + x.made(what));
            s.add("bar" + what + "=" + x.bestBar(what)).add("whole" + what + "=" + x.whole(77, what));
        }
        s.add("judge=" + x.judge()).add("just=" + x.just(-1)).add("fails=" + x.fails());
        s.add("day=" + x.bestDay()).add("show=" + x.bestShow());
        for (int q = 0; q <= 10; q += 5) s.add("extra" + q + "=" + x.extra(q));
        for (int r = 0; r < 20; r += 9) s.add("rich" + r + "=" + x.rich(r, 0) + "," + x.richDay(r));
        return s.toString();
    }

    private static void seeGiver(EnoughGive x, int i, StringJoiner s) {
        for (int what = 0; what < 4; what++) s.add("g" + i + "," + what + "=" + x.giver(i, what));
        for (int what = 0; what < 2; what++) {
            s.add("mean" + i + "," + what + "=" + x.mean(i, what)).add("evening" + i + "," + what + "=" + x.evening(77, i, what));
        }
        int gift = x.row(i, 0);
        x.row(i, gift);
        s.add("row" + i + "=" + gift).add("just" + i + "=" + x.just(i));
    }

    /** What is kept, too, and where THE TEXT ends; this takes it back, and wipes it. */
    static String ofAll(EnoughGive x) {
        StringJoiner s = new StringJoiner(" ");
        s.add(of(x));
        for (int k = 0; k < 3; k++) {
            s.add("back=" + x.back());
            int how = x.show(0);
            x.show(how);
            s.add("shown=" + how);
            for (int i = 0; i < x.count(0); i++) {
                int gift = x.row(i, 0);
                x.row(i, gift);
                s.add("row" + i + "=" + gift);
            }
        }
        x.write(1, 'd');
        s.add("fault=" + x.fault()).add("wipe=" + x.wipe());
        return s.toString();
    }
}
