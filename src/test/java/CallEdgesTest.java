import java.util.ArrayList;
import java.util.List;

/** The bounds of each call's numbers: the last allowed, the first refused, and that nothing has changed behind a refused one. */
public final class CallEdgesTest {
    private static final int LEAST = Integer.MIN_VALUE, MOST = Integer.MAX_VALUE;
    private static final long BAD_LONG = Long.MIN_VALUE;
    private static final String THREE = "b10,2;d5;c16;p1;e2,1;o1;g2,1,9,0,2;g1,0,12,5,0;w0,8,5;w0,2,5;w1,10,10;";
    private static final String WISH = "b12,0;d30;s4,50;g1,3,9,0,0;g2,2,12,5,9;w0,8,5;w0,2,5;w1,10,9;w1,1,1;";
    private static final String NONE_COME = "b1,0;d0;c0;g2,1,9,1,0;w0,9,10;";

    private interface Call {
        long of(EnoughGive x);
    }

    /** A call that is refused, and what it answers. */
    private static final class Refused {
        final String name;
        final Call call;
        final long want;

        Refused(String name, long want, Call call) {
            this.name = name;
            this.want = want;
            this.call = call;
        }
    }

    /** How an object comes to stand as it does. */
    private static final class State {
        final String name, text, behind;
        final int keeps;

        State(String name, String text, String behind, int keeps) {
            this.name = name;
            this.text = text;
            this.behind = behind;
            this.keeps = keeps;
        }

        EnoughGive make() {
            EnoughGive x = text.isEmpty() ? new EnoughGive() : Due.laid(text);
            x.wipe();
            for (int k = 0; k < keeps; k++) {
                for (int i = 0; i < x.count(0); i++) x.row(i, 3 + k + i);
                x.show(k + 1);
                x.keep();
            }
            for (int i = 0; i < x.count(0); i++) x.row(i, 10 * i);
            x.show(keeps);
            Due.put(x, behind);
            return x;
        }
    }

    private static final State[] STATES = {
        new State("a new object", "", "", 0),
        new State("three givers, one kept, a fault", THREE, "d3;d31;", 1),
        new State("a second wish, two kept, no sort", WISH, "b3,3;", 2),
        new State("none that come, a full text", NONE_COME, "d09;".repeat(75), 0),
        new State("the greatest last day, tenths that lack", WISH, "g1,1,1,1,1;w0,1,9;", 1),
    };

    public static void main(String[] args) {
        for (State state : STATES) {
            looksChangeNothing(state);
            for (Refused refused : refusedOf(state)) nothingChanges(state, refused);
            allowed(state);
        }
        firstOfSeveral();
        laidBehindOthers();
        changedBehindALook();
        Due.end("edges of calls");
    }

    private static void looksChangeNothing(State state) {
        EnoughGive x = state.make();
        String seen = Seen.of(x);
        Due.holds("a look changes nothing: " + state.name, seen.equals(Seen.of(x)));
        Due.holds("made alike, they answer alike: " + state.name, seen.equals(Seen.of(state.make())));
    }

    private static void nothingChanges(State state, Refused refused) {
        String want = Seen.ofAll(state.make());
        EnoughGive fresh = state.make();
        Due.is(refused.name + ": " + state.name, refused.call.of(fresh), refused.want);
        same(refused.name + " changes nothing: " + state.name, Seen.ofAll(fresh), want);
        // The same behind a look, when all is known already.
        EnoughGive seen = state.make();
        Seen.of(seen);
        Due.is(refused.name + " behind a look: " + state.name, refused.call.of(seen), refused.want);
        same(refused.name + " changes nothing behind a look: " + state.name, Seen.ofAll(seen), want);
    }

    private static void same(String what, String got, String want) {
        Due.holds(what + "\n  " + got + "\n  " + want, got.equals(want));
    }

    private static List<Refused> refusedOf(State state) {
        EnoughGive x = state.make();
        List<Refused> all = new ArrayList<>();
        boards(all, x);
        chances(all, x);
        rests(all, x);
        evenings(all, x);
        return all;
    }

    private static void add(List<Refused> all, String name, long want, Call call) {
        all.add(new Refused(name, want, call));
    }

    /** Just outside a range, and far outside. */
    private static int[] outside(int low, int high) {
        return new int[] {low - 1, high + 1, LEAST, MOST};
    }

    private static void boards(List<Refused> all, EnoughGive x) {
        for (int n : outside(1, 8)) add(all, "write(" + n + ", ..)", -1, y -> y.write(n, 0x6431_3b64_313b_6431L));
        int left = 300 - x.count(3);
        for (int n = left + 1; n <= 8; n++) {
            int over = n;
            add(all, "write(" + n + ", ..) over the end", -3, y -> y.write(over, 0x6431_3b64_313b_6431L));
        }
        add(all, "lay()", -2, y -> y.lay());
        for (int i : outside(0, x.count(0) - 1)) {
            for (int what = 0; what < 4; what++) {
                int w = what;
                add(all, "giver(" + i + ", " + w + ")", -1, y -> y.giver(i, w));
            }
        }
        for (int what : outside(0, 3)) add(all, "giver(0, " + what + ")", -1, y -> y.giver(0, what));
        for (int how : outside(0, 2)) add(all, "show(" + how + ")", -1, y -> y.show(how));
        for (int what : outside(0, 6)) add(all, "count(" + what + ")", -1, y -> y.count(what));
        add(all, "fault()", x.fault(), y -> y.fault());
    }

    private static void chances(List<Refused> all, EnoughGive x) {
        for (int what : outside(0, 2)) add(all, "odds(" + what + ")", -1, y -> y.odds(what));
        for (int i : outside(0, x.count(0) - 1)) {
            for (int what = 0; what < 2; what++) {
                int w = what;
                add(all, "mean(" + i + ", " + w + ")", BAD_LONG, y -> y.mean(i, w));
            }
            add(all, "row(" + i + ", 0)", -1, y -> y.row(i, 0));
            add(all, "row(" + i + ", 30)", -1, y -> y.row(i, 30));
        }
        for (int what : outside(0, 1)) {
            add(all, "mean(0, " + what + ")", BAD_LONG, y -> y.mean(0, what));
            add(all, "wrong(" + what + ")", -1, y -> y.wrong(what));
            add(all, "made(" + what + ")", -1, y -> y.made(what));
        }
        for (int i = 0; i < x.count(0); i++) {
            int giver = i;
            for (int gift : outside(0, 30)) add(all, "row(" + i + ", " + gift + ")", -1, y -> y.row(giver, gift));
        }
    }

    private static void rests(List<Refused> all, EnoughGive x) {
        for (int i : outside(-1, x.count(0) - 1)) add(all, "just(" + i + ")", -1, y -> y.just(i));
        for (int i = 0; i < x.count(0); i++) {
            int giver = i;
            if (x.giver(i, 3) < 0) add(all, "just(" + i + ") of one that does not come", -1, y -> y.just(giver));
        }
        for (int what : outside(0, 1)) add(all, "bestBar(" + what + ")", -1, y -> y.bestBar(what));
        for (int q : outside(0, 10)) add(all, "extra(" + q + ")", -1, y -> y.extra(q));
        for (int r : outside(0, 99)) {
            add(all, "rich(" + r + ", 0)", -1, y -> y.rich(r, 0));
            add(all, "richDay(" + r + ")", -1, y -> y.richDay(r));
        }
        for (int day : outside(0, x.count(6))) add(all, "rich(0, " + day + ")", -1, y -> y.rich(0, day));
        for (int what : outside(0, 2)) add(all, "two(" + what + ")", -1, y -> y.two(what));
        for (int what = 0; what < 3; what++) {
            int w = what;
            if (x.two(what) == EnoughGive.NO) add(all, "two(" + what + ") without one", -2, y -> y.two(w));
        }
    }

    private static void evenings(List<Refused> all, EnoughGive x) {
        for (int z : outside(0, 9999)) {
            for (int what = 0; what < 2; what++) {
                int w = what;
                add(all, "evening(" + z + ", 0, " + w + ")", -1001, y -> y.evening(z, 0, w));
                add(all, "whole(" + z + ", " + w + ")", -1, y -> y.whole(z, w));
            }
        }
        for (int i : outside(0, x.count(0) - 1)) add(all, "evening(0, " + i + ", 0)", -1001, y -> y.evening(0, i, 0));
        for (int what : outside(0, 1)) {
            add(all, "evening(0, 0, " + what + ")", -1001, y -> y.evening(0, 0, what));
            add(all, "whole(0, " + what + ")", -1, y -> y.whole(0, what));
        }
        for (int i = 0; i < x.count(0); i++) {
            int giver = i;
            if (x.giver(i, 3) >= 0) continue;
            add(all, "evening(9, " + i + ", 1) of one that does not come", -1004, y -> y.evening(9, giver, 1));
            add(all, "mean(" + i + ", 1) of one that does not come", -4, y -> y.mean(giver, 1));
        }
        if (x.count(4) == 2) add(all, "keep() of a third", -3, y -> y.keep());
        if (x.count(4) == 0) add(all, "back() of none", -2, y -> y.back());
    }

    /** The last numbers that are allowed, on either side, are not refused. */
    private static void allowed(State state) {
        EnoughGive x = state.make();
        int last = x.count(0) - 1;
        int room = 300 - x.count(3);
        for (int i : new int[] {0, last}) {
            boolean comes = x.giver(i, 3) >= 0;
            taken("giver(" + i + ", 0)", x.giver(i, 0) >= 0, state);
            taken("giver(" + i + ", 3)", x.giver(i, 3) >= 0 == comes && x.giver(i, 3) != -1, state);
            taken("mean(" + i + ", 0)", x.mean(i, 0) != BAD_LONG, state);
            taken("mean(" + i + ", 1)", x.mean(i, 1) != BAD_LONG, state);
            taken("row(" + i + ", 0)", x.row(i, 0) >= 0, state);
            taken("row(" + i + ", 30)", x.row(i, 30) == 0 && x.row(i, 0) == 30, state);
            taken("just(" + i + ")", x.just(i) == -1 != comes, state);
            for (int z : new int[] {0, 9999}) {
                taken("evening(" + z + ", " + i + ", 0)", x.evening(z, i, 0) != -1001, state);
                taken("evening(" + z + ", " + i + ", 1)", x.evening(z, i, 1) != -1001, state);
            }
        }
        for (int what = 0; what <= 6; what++) taken("count(" + what + ")", x.count(what) >= 0, state);
        for (int what = 0; what <= 2; what++) {
            taken("odds(" + what + ")", x.odds(what) >= 0, state);
            taken("two(" + what + ")", x.two(what) != -1, state);
        }
        for (int what = 0; what <= 1; what++) {
            taken("wrong(" + what + ")", x.wrong(what) >= 0, state);
            taken("made(" + what + ")", x.made(what) >= 0, state);
            taken("bestBar(" + what + ")", x.bestBar(what) >= 0, state);
            taken("whole(0, " + what + ")", x.whole(0, what) >= 0, state);
            taken("whole(9999, " + what + ")", x.whole(9999, what) >= 0, state);
        }
        taken("just(-1)", x.just(-1) >= 0, state);
        taken("extra(0)", x.extra(0) == 0, state);
        taken("extra(10)", x.extra(10) != -1, state);
        for (int r : new int[] {0, 99}) {
            taken("rich(" + r + ", 0)", x.rich(r, 0) >= 0, state);
            taken("rich(" + r + ", the last)", x.rich(r, x.count(6)) >= 0, state);
            taken("richDay(" + r + ")", x.richDay(r) >= 0, state);
        }
        taken("show(0)", x.show(0) >= 0, state);
        taken("show(2)", x.show(2) == 0 && x.show(0) == 2, state);
        if (room < 9) return;
        taken("write(1, ..)", x.write(1, 0) == 300 - room + 1, state);
        taken("write(8, ..)", x.write(8, 0) == 300 - room + 9, state);
    }

    private static void taken(String call, boolean itIs, State state) {
        Due.holds(call + " is not refused: " + state.name, itIs);
    }

    /** BAD ahead of NO, NO ahead of NONE, NONE ahead of FULL. */
    private static void firstOfSeveral() {
        EnoughGive full = Due.written("d5;".repeat(100));
        Due.is("write(0, ..) of a full text", full.write(0, 0), EnoughGive.BAD);
        Due.is("write(9, ..) of a full text", full.write(9, 0), EnoughGive.BAD);
        Due.is("write(1, ..) of a full text", full.write(1, 0), EnoughGive.FULL);
        Due.is("lay() of a full text without a sort", full.lay(), EnoughGive.NO);
        EnoughGive none = Due.laid(NONE_COME);
        Due.is("two(3) without one", none.two(3), EnoughGive.BAD);
        Due.is("two(-1) without one", none.two(-1), EnoughGive.BAD);
        Due.is("two(2) without one", none.two(2), EnoughGive.NO);
        Due.is("giver(1, 4) of one that does not come", none.giver(1, 4), EnoughGive.BAD);
        Due.is("giver(1, 2) of one that does not come", none.giver(1, 2), EnoughGive.NONE);
        Due.is("mean(1, 2) of one that does not come", none.mean(1, 2), BAD_LONG);
        Due.is("mean(1, 1) of one that does not come", none.mean(1, 1), EnoughGive.NONE);
        Due.is("evening(10000, 1, 0) of one that does not come", none.evening(10000, 1, 0), -1001);
        Due.is("evening(0, 1, 2) of one that does not come", none.evening(0, 1, 2), -1001);
        Due.is("evening(0, 1, 1) of one that does not come", none.evening(0, 1, 1), -1004);
        Due.is("just(1) of one that does not come, where there is none", none.just(1), EnoughGive.BAD);
        Due.is("just(2) of no giver, where there is none", none.just(2), EnoughGive.BAD);
        Due.is("extra(11) where there is none", none.extra(11), EnoughGive.BAD);
        Due.is("extra(10) where there is none", none.extra(10), EnoughGive.NONE);
    }

    /** What is laid stands alone: without an item holds what holds without it, whatever was laid and looked at ahead. */
    private static void laidBehindOthers() {
        String[] texts = {"b5,2;d3;c1;p9;e9,30;o1;s1,99;g2,5,30,0,0;t0,30;w0,30,10;", "g2,5,30,0,0;t0,15;w0,19,10;",
            "g1,5,30,0,0;w0,19,10;", "g1,5,30,0,0;t0,9;w0,19,10;", "g1,5,30,0,0;t0,20;w0,19,10;", "g2,3,30,5,0;w0,19,10;", THREE, WISH, NONE_COME};
        for (String first : texts) {
            for (String then : texts) {
                EnoughGive x = Due.laid(first);
                x.show(1);
                x.row(0, 30);
                x.keep();
                Seen.of(x);
                x.wipe();
                Due.put(x, then);
                x.lay();
                same("lay() of " + then + " behind " + first, Seen.ofAll(x), Seen.ofAll(Due.laid(then)));
            }
        }
    }

    /** What is shown, told, taken back changes all that hangs on it, though that was looked at ahead. */
    private static void changedBehindALook() {
        for (State state : STATES) {
            for (int how = 0; how < 3; how++) {
                EnoughGive x = state.make();
                EnoughGive y = state.make();
                Seen.of(x);
                x.show(how);
                y.show(how);
                same("show(" + how + ") behind a look: " + state.name, Seen.of(x), Seen.of(y));
            }
            EnoughGive x = state.make();
            EnoughGive y = state.make();
            x.show(0);
            Seen.of(x);
            Due.is("back() behind a look: " + state.name, x.back(), y.back());
            if (state.keeps == 0) y.show(0);
            same("back() behind a look: " + state.name, Seen.of(x), Seen.of(y));
        }
    }
}
