import java.math.BigInteger;

/** The bounds that the document's third and fourth parts name: gifts at REST, the best terms, RICH, TWO, evenings, KEPT. */
public final class RestEdgesTest {
    // Behind a told one of so much, of day 2, a sly one of the last day, to whom it is worth so much.
    private static final String TOLD_AND_SLY = "b%d,2;d5;g1,5,30,2,0;t0,%d;w0,0,10;g1,4,30,0,0;w1,%d,10;";

    public static void main(String[] args) {
        restingGifts();
        justTheBar();
        justByGivers();
        justTheFirst();
        justOfNone();
        failsOfOne();
        failsByThePenny();
        failsByGivers();
        failsOfTwoWithPenny();
        bestBarOfBoth();
        bestBarAtItsBounds();
        bestDayAtItsBounds();
        bestDayByOdds();
        leastExtraByQ();
        leastExtraAtItsBounds();
        bestShowOfThree();
        richByDays();
        richByAsMuch();
        richIsSeen();
        richDays();
        twoByKinds();
        twoByPurse();
        twoBoards();
        twoOfWays();
        draws();
        drawnTenths();
        evenings();
        keptBoards();
        keptWhole();
        Due.end("edges of rests and evenings");
    }

    private static void just(String text, long... want) {
        EnoughGive x = Due.laid(text);
        for (int i = -1; i < want.length - 1; i++) Due.is("just(" + i + ") by " + text, x.just(i), want[i + 1]);
    }

    private static void fails(String text, long want) {
        Due.is("fails() by " + text, Due.laid(text).fails(), want);
    }

    // ---- JUST

    /** From 0 to the lesser of the greatest worth told and the purse, whatever the kind and the extra are. */
    private static void restingGifts() {
        just("b5,0;g1,1,5,0,0;w0,5,10;", 1, 5);
        just("b5,0;g1,1,4,0,0;w0,5,10;", 0, EnoughGive.NONE);
        just("b5,0;g1,1,5,0,0;w0,4,10;", 0, EnoughGive.NONE);
        just("b5,0;g1,1,30,0,0;w0,0,9;w0,5,1;", 1, 5);
        just("b5,0;g1,1,30,0,0;w0,5,1;w0,0,9;", 1, 5);
        just("b5,0;g1,1,30,0,0;w0,4,3;w0,5,3;w0,3,4;", 1, 5);
        just("b30,0;g1,1,30,0,0;w0,30,10;", 1, 30);
        just("b1,0;g1,1,30,0,0;w0,0,10;", 0, EnoughGive.NONE);
        just("b1,0;g1,1,0,0,0;w0,30,10;", 0, EnoughGive.NONE);
        for (int kind = 0; kind <= 5; kind++) just("b5,0;e9,9;o1;g2," + kind + ",9,0,0;t0,3;w0,4,10;", 4, 1, 4);
    }

    /** Just the bar together, no more and no less. */
    private static void justTheBar() {
        String two = "b%d,0;g2,1,5,0,0;w0,5,10;";
        for (int bar = 1; bar <= 12; bar++) {
            long ways = bar <= 5 ? bar + 1 : Math.max(0, 11 - bar);
            long first = bar <= 5 ? 0 : bar - 5;
            if (ways == 0) just(String.format(two, bar), 0, EnoughGive.NONE, EnoughGive.NONE);
            else just(String.format(two, bar), ways, first, bar - first);
        }
        just("b60,0;g2,1,30,0,0;w0,30,10;", 1, 30, 30);
        just("b60,0;g1,1,30,0,0;w0,30,10;g1,1,29,0,0;w1,30,10;", 0, EnoughGive.NONE, EnoughGive.NONE);
        just("b60,0;g4,1,15,0,0;w0,15,10;", 1, 15, 15, 15, 15);
        just("b59,0;g4,1,15,0,0;w0,15,10;", 4, 14, 15, 15, 15);
    }

    /** By N or more who give 1 or more. */
    private static void justByGivers() {
        long[] ways = {6, 6, 4, 0, 0, 0, 0, 0, 0};
        for (int need = 0; need <= 8; need++) {
            long first = need < 2 ? 0 : need == 2 ? 1 : EnoughGive.NONE;
            just("b5," + need + ";g2,1,5,0,0;w0,5,10;", ways[need], first, need > 2 ? first : 5 - first);
        }
        just("b8,8;g8,1,30,0,0;w0,30,10;", 1, 1, 1, 1, 1, 1, 1, 1, 1);
        just("b9,8;g8,1,30,0,0;w0,30,10;", 8, 1, 1, 1, 1, 1, 1, 1, 2);
        just("b7,8;g8,1,30,0,0;w0,30,10;", 0, EnoughGive.NONE);
        just("b9,8;g7,1,30,0,0;w0,30,10;g1,1,0,0,0;w1,30,10;", 0, EnoughGive.NONE);
        just("b9,7;g7,1,30,0,0;w0,30,10;g1,1,0,0,0;w1,30,10;", 28, 1, 1, 1, 1, 1, 1, 3, 0);
    }

    /** The lower gift ahead, by the givers' numbers and not by their days. */
    private static void justTheFirst() {
        just("b7,2;g1,1,9,5,0;w0,9,10;g1,1,3,0,0;w1,9,10;g1,1,3,1,0;w2,9,10;", 15, 1, 3, 3);
        just("b6,2;g1,1,9,5,0;w0,9,10;g1,1,3,0,0;w1,9,10;g1,1,3,1,0;w2,9,10;", 15, 0, 3, 3);
        just("b6,3;g1,1,9,5,0;w0,9,10;g1,1,3,0,0;w1,9,10;g1,1,3,1,0;w2,9,10;", 8, 1, 2, 3);
        // One who gives nothing takes nothing off how many must give behind him; one who may give 1 alone is one of them.
        just("b5,2;g3,1,5,0,0;w0,5,10;", 18, 0, 1, 4);
        just("b5,3;g1,1,5,0,0;w0,5,10;g2,1,1,0,0;w1,1,10;", 1, 3, 1, 1);
        // Those that do not come stand between the others by number, and give nothing.
        just("b9,2;d5;g1,1,9,6,0;w0,9,10;g2,1,8,0,9;w1,9,10;g1,1,9,5,0;w2,9,10;", 8, EnoughGive.BAD, 1, EnoughGive.BAD, 8);
    }

    /** None: the count is 0, the gift of one that comes NONE, of one that does not BAD. */
    private static void justOfNone() {
        just("b1,0;d0;g2,1,9,1,0;w0,9,10;", 0, EnoughGive.BAD, EnoughGive.BAD, EnoughGive.BAD);
        just("b19,0;d0;g2,1,9,0,1;w0,9,10;", 0, EnoughGive.NONE, EnoughGive.BAD, EnoughGive.BAD);
        just("b9,0;d0;g2,1,9,0,1;w0,9,10;", 1, 9, EnoughGive.BAD, EnoughGive.BAD);
        EnoughGive x = Due.laid("b9,0;d0;g2,1,9,0,1;w0,9,10;");
        Due.is("just(-2)", x.just(-2), EnoughGive.BAD);
    }

    // ---- FAILS

    /** One giver: what he gives less than the bar rests if he would not have more by the bar. */
    private static void failsOfOne() {
        fails("b20,0;g1,1,30,0,0;w0,20,10;", 20);
        fails("b20,0;g1,1,30,0,0;w0,21,10;", 0);
        fails("b20,0;g1,1,20,0,0;w0,21,10;", 0);
        fails("b20,0;g1,1,19,0,0;w0,21,10;", 20);
        fails("b20,0;g1,1,19,0,0;w0,19,10;", 20);
        fails("b20,0;g1,1,18,0,0;w0,18,10;", 19);
        fails("b1,0;g1,1,1,0,0;w0,1,10;", 1);
        fails("b1,0;g1,1,1,0,0;w0,2,10;", 0);
        fails("b1,0;g1,1,0,0,0;w0,30,10;", 1);
        fails("b60,0;g1,1,30,0,0;w0,30,10;", 31);
        fails("b30,0;g1,1,30,0,0;w0,30,10;", 30);
        fails("b20,0;g1,1,30,0,0;w0,21,1;w0,0,9;", 0);
        fails("b60,0;d0;g8,1,30,1,0;w0,30,10;", 1);
        // Two are needed: what is the bar or more is not of those, though it fails.
        fails("b20,2;g1,1,30,0,0;w0,30,10;", 20);
        fails("b1,2;g1,1,30,0,0;w0,30,10;", 1);
        // Neither the kind nor the extra nor parts are at rest.
        for (int kind = 0; kind <= 5; kind++) fails("b20,0;e9,9;o1;g1," + kind + ",30,0,0;t0,9;w0,20,10;", 20);
    }

    /** Who gives nothing would have the penny by 1, if that fails; who has it would want more than it. */
    private static void failsByThePenny() {
        fails("b20,0;p1;g1,1,19,0,0;w0,19,10;", 19);
        fails("b20,0;p1;g1,1,30,0,0;w0,21,10;", 19);
        fails("b20,0;p1;g1,1,30,0,0;w0,22,10;", 0);
        fails("b20,0;p9;g1,1,30,0,0;w0,29,10;", 19);
        fails("b20,0;p9;g1,1,30,0,0;w0,30,10;", 0);
        fails("b20,0;p9;g1,1,0,0,0;w0,30,10;", 1);
        fails("b20,0;p9;g1,1,1,0,0;w0,30,10;", 1);
        // By a bar of 1 there is no gift above 0 that fails: the 0 rests unless more than 1 is to be had.
        fails("b1,0;p9;g1,1,30,0,0;w0,1,10;", 1);
        fails("b1,0;p9;g1,1,30,0,0;w0,2,10;", 0);
        fails("b2,0;p9;g1,1,30,0,0;w0,2,10;", 1);
        // Two are needed: by any gift he fails, and has the penny.
        fails("b1,2;p1;g1,1,30,0,0;w0,30,10;", 0);
        fails("b2,2;p1;g1,1,30,0,0;w0,30,10;", 1);
    }

    /** By N or more, as it would be: who gives nothing would be one more. */
    private static void failsByGivers() {
        fails("b2,2;g2,1,5,0,0;w0,5,10;", 1);
        fails("b2,2;g2,1,1,0,0;w0,1,10;", 3);
        fails("b2,2;g2,1,1,0,0;w0,2,10;", 1);
        fails("b2,1;g2,1,1,0,0;w0,2,10;", 1);
        fails("b2,1;g2,1,2,0,0;w0,3,10;", 0);
        fails("b2,3;g2,1,5,0,0;w0,5,10;", 3);
        // By three of three: 0,0,0; the three of one; the three of two, where the third would have 4.
        fails("b3,3;g3,1,5,0,0;w0,5,10;", 1 + 3 + 3 + 0);
        fails("b8,8;g8,1,1,0,0;w0,1,10;", 255);
        fails("b8,8;g8,1,1,0,0;w0,2,10;", 255 - 8);
    }

    /** By two of two, for 5: the pairs are counted by hand, as far as each would have more by what lacks. */
    private static void failsOfTwoWithPenny() {
        fails("b5,2;p3;g2,1,5,0,0;w0,5,10;", 6);
        fails("b5,2;p2;g2,1,5,0,0;w0,5,10;", 4);
        fails("b5,2;p1;g2,1,5,0,0;w0,5,10;", 1);
        fails("b5,2;g2,1,5,0,0;w0,5,10;", 1);
    }

    // ---- the best terms

    /** Of both wrongs together the least: given are 11, 10, 1 or 0, and it should be in the first and the third way. */
    private static void bestBarOfBoth() {
        String two = "b30,0;c20;g1,2,30,0,0;w0,19,5;w0,0,5;g1,2,2,0,0;w1,30,%d;w1,0,%d;";
        int[][] cases = {{4, 6, 11, 20}, {7, 3, 1, 15}, {5, 5, 1, 25}};
        for (int[] c : cases) {
            EnoughGive x = Due.laid(String.format(two, c[0], c[1]));
            Due.is("bestBar(0) by " + c[0] + " tenths", x.bestBar(0), c[2]);
            Due.is("bestBar(1) by " + c[0] + " tenths", x.bestBar(1), c[3]);
            Due.is("bestBar by " + c[0] + " tenths: the bar as told", x.count(5), 30);
            Due.is("bestBar by " + c[0] + " tenths: missed as told", x.wrong(1), 10L * c[0]);
        }
    }

    /** From 1 to 60, the lowest. */
    private static void bestBarAtItsBounds() {
        // Never should be; given are so much, and it is built by no bar above.
        int[][] cases = {{0, 0, 1, 0}, {1, 0, 2, 0}, {30, 28, 59, 0}, {30, 29, 60, 0}, {30, 30, 1, 100}};
        for (int[] c : cases) {
            String text = String.format("b9,0;c199;g1,5,30,0,0;t0,%d;w0,0,10;g1,5,30,0,0;t1,%d;w1,0,10;", c[0], c[1]);
            EnoughGive x = Due.laid(text);
            Due.is("bestBar(0) by " + text, x.bestBar(0), c[2]);
            Due.is("bestBar(1) by " + text, x.bestBar(1), c[3]);
        }
        // Always should be: the lowest of those by which it is built, and of those by which it never is.
        EnoughGive should = Due.laid("b60,0;c0;g1,5,30,0,0;t0,9;w0,0,10;");
        Due.is("bestBar(0): always should be", should.bestBar(0), 1);
        Due.is("bestBar(1): always should be", should.bestBar(1), 0);
        EnoughGive few = Due.laid("b60,2;c0;g1,5,30,0,0;t0,9;w0,0,10;");
        Due.is("bestBar(0): the givers needed stay", few.bestBar(0), 1);
        Due.is("bestBar(1): the givers needed stay", few.bestBar(1), 10);
        EnoughGive none = Due.laid("d0;c0;g1,5,30,1,0;t0,9;w0,0,10;");
        Due.is("bestBar(1): none that come", none.bestBar(1), 1);
        Due.is("bestBar(1): none that come, at a cost", Due.laid("d0;c1;g1,5,30,1,0;t0,9;w0,0,10;").bestBar(1), 0);
    }

    /** From 0 to 30, the first; the last day as told is of no weight. */
    private static void bestDayAtItsBounds() {
        for (int day : new int[] {0, 1, 9, 10, 29, 30}) {
            EnoughGive x = Due.laid("b9,0;d" + (30 - day) + ";g1,1,30," + day + ",0;w0,9,10;");
            Due.is("bestDay() of one of day " + day, x.bestDay(), day);
            Due.is("bestDay(): the last day as told", x.count(6), 30 - day);
        }
        Due.is("bestDay() of one behind the first", Due.laid("b9,0;d9;g1,0,30,0,0;w0,9,10;g1,5,30,1,0;w1,0,10;").bestDay(), 0);
        Due.is("bestDay(): never built", Due.laid("b10,0;d9;g1,0,30,7,0;w0,9,10;").bestDay(), 0);
        Due.is("bestDay(): one by nines that never comes", Due.laid("b18,2;d30;g2,1,30,22,9;w0,9,10;").bestDay(), 0);
        Due.is("bestDay(): one by nines that comes", Due.laid("b18,2;d0;g2,1,30,21,9;w0,9,10;").bestDay(), 30);
        Due.is("bestDay(): a sly one alone", Due.laid("b9,0;d9;g1,4,30,30,0;w0,9,10;").bestDay(), 0);
    }

    /** By odds, however many come: 5 of 10 are as much as 50 of 100, and 6 of 10 more. */
    private static void bestDayByOdds() {
        String two = "b9,0;g1,0,30,4,0;w0,9,%d;w0,0,%d;g1,0,30,6,0;w1,9,%d;w1,0,%d;";
        Due.is("bestDay(): 5 of 10, then 50 of 100", Due.laid(String.format(two, 5, 5, 5, 5)).bestDay(), 4);
        Due.is("bestDay(): 5 of 10, then 60 of 100", Due.laid(String.format(two, 5, 5, 6, 4)).bestDay(), 6);
        Due.is("bestDay(): 6 of 10, then 50 of 100", Due.laid(String.format(two, 6, 4, 5, 5)).bestDay(), 4);
        // A sly one comes ahead of the told one of day 6 on that day, and behind him a day later, though no other comes.
        Due.is("bestDay(): another order", Due.laid("b9,0;g1,4,30,0,0;w0,5,10;g1,5,30,6,0;t1,4;w1,3,10;").bestDay(), 7);
        Due.is("bestDay(): another order, of day 30", Due.laid("b9,0;g1,4,30,0,0;w0,5,10;g1,5,30,30,0;t1,4;w1,3,10;").bestDay(), 0);
        EnoughGive shown = Due.laid("b12,0;g1,5,30,3,0;t0,6;w0,0,10;g1,0,30,5,0;w1,6,10;");
        Due.is("bestDay(): just so shown", shown.bestDay(), 5);
        shown.show(1);
        Due.is("bestDay(): nothing shown", shown.bestDay(), 0);
    }

    /** By q of ten or more of all ways: 5 of 10 are as much as q 5 asks. */
    private static void leastExtraByQ() {
        String[] texts = {"b10,0;e0,3;g1,3,30,3,0;w0,6,%d;w0,0,%d;", "b10,0;e0,3;g1,3,30,3,0;w0,6,%d;w0,0,%d;g7,5,1,4,0;w1,0,10;"};
        for (String text : texts) {
            for (int tenths = 1; tenths <= 9; tenths++) {
                EnoughGive x = Due.laid(String.format(text, tenths, 10 - tenths));
                for (int q = 0; q <= 10; q++) {
                    int want = q == 0 ? 0 : q <= tenths ? 4 : EnoughGive.NONE;
                    Due.is("extra(" + q + ") by " + tenths + " tenths", x.extra(q), want);
                }
                Due.is("extra(-1)", x.extra(-1), EnoughGive.BAD);
                Due.is("extra(11)", x.extra(11), EnoughGive.BAD);
            }
        }
        // All ways but one of a hundred million are fewer than ten of ten.
        EnoughGive but = Due.laid("b1,0;e0,9;g8,3,30,9,0;w0,1,9;w0,0,1;");
        Due.is("odds(0): all but one", but.odds(0), 99_999_999);
        Due.is("extra(10): all but one", but.extra(10), 1);
        Due.is("extra(9): all but one", but.extra(9), 0);
        EnoughGive never = Due.laid("b1,0;g8,2,30,0,0;w0,1,9;w0,0,1;");
        Due.is("extra(10): all but one, whatever the extra is", never.extra(10), EnoughGive.NONE);
        Due.is("extra(9): all but one, whatever the extra is", never.extra(9), 0);
        EnoughGive none = Due.laid("d0;g1,3,30,3,0;w0,6,10;");
        Due.is("extra(0) of none", none.extra(0), 0);
        Due.is("extra(1) of none", none.extra(1), EnoughGive.NONE);
    }

    /** From 0 to 9, its day as told, whatever the extra as told is; the least, though a greater one is worse. */
    private static void leastExtraAtItsBounds() {
        for (int told : new int[] {0, 9}) {
            String early = "b%d,0;e" + told + ",%d;g1,3,30,%d,0;w0,6,10;";
            for (int bar = 5; bar <= 16; bar++) {
                int want = bar <= 6 ? 0 : bar <= 15 ? bar - 6 : EnoughGive.NONE;
                Due.is("extra(10) by " + bar, Due.laid(String.format(early, bar, 3, 3)).extra(10), want);
                Due.is("extra(10) by " + bar + ", behind its day", Due.laid(String.format(early, bar, 2, 3)).extra(10), bar <= 6 ? 0 : EnoughGive.NONE);
            }
        }
        Due.is("extra(10) without one, on day 0", Due.laid("b9,0;g1,3,30,0,0;w0,6,10;").extra(10), 3);
        Due.is("extra(10) without one, on day 1", Due.laid("b9,0;g1,3,30,1,0;w0,6,10;").extra(10), EnoughGive.NONE);
        // By 4 more the first gives all, the second nothing, and two are needed.
        EnoughGive worse = Due.laid("b10,2;e9,0;g1,3,30,0,0;w0,6,10;g1,0,30,1,0;w1,4,10;");
        Due.is("odds(0) by 9", worse.odds(0), 0);
        Due.is("extra(10), the least", worse.extra(10), 0);
        Due.is("odds(0) by 9, as told", worse.odds(0), 0);
    }

    /** Of 0, 1, 2 the first of the greatest odds. */
    private static void bestShowOfThree() {
        String two = "b%d,2;g1,5,30,0,0;t0,%d;w0,0,10;g1,4,30,1,0;w1,%d,10;";
        // What lacks just so, of nothing, in tens; the sly one gives it if it is his worth or less, but not 0.
        int[][] cases = {{9, 9, 9, 1}, {20, 10, 10, 0}, {15, 15, 9, 2}, {15, 15, 15, 1}, {60, 9, 9, 0}, {12, 3, 12, 0}, {19, 19, 9, 2}, {20, 20, 9, 0}};
        for (int[] c : cases) {
            EnoughGive x = Due.laid(String.format(two, c[0], c[1], c[2]));
            for (int how = 0; how < 3; how++) {
                x.show(how);
                Due.is("bestShow() by " + c[0] + ", " + c[1] + ", " + c[2] + ", shown by " + how, x.bestShow(), c[3]);
            }
            Due.is("bestShow: what is shown stays", x.show(0), 2);
        }
        Due.is("bestShow() of none", Due.laid("d0;g1,1,1,1,0;w0,1,10;").bestShow(), 0);
    }

    // ---- RICH

    /** From day 0 to the last, behind all that came on the day. */
    private static void richByDays() {
        EnoughGive x = Due.laid(String.format(TOLD_AND_SLY, 19, 6, 7));
        long[] want = {0, 0, 100, 100, 100, 0};
        for (int day = 0; day <= 5; day++) Due.is("rich(99, " + day + ")", x.rich(99, day), want[day]);
        Due.is("rich(99, 6)", x.rich(99, 6), EnoughGive.BAD);
        Due.is("rich(99, -1)", x.rich(99, -1), EnoughGive.BAD);
        EnoughGive zero = Due.laid("b18,0;d0;g1,5,30,0,0;t0,9;w0,0,10;");
        Due.is("rich(99, 0) of the last day 0", zero.rich(99, 0), 10);
        Due.is("rich(99, 1) of the last day 0", zero.rich(99, 1), EnoughGive.BAD);
        EnoughGive thirty = Due.laid("b18,0;d30;g1,5,30,30,0;t0,9;w0,0,10;");
        Due.is("rich(99, 29) ahead of day 30", thirty.rich(99, 29), 0);
        Due.is("rich(99, 30) behind day 30", thirty.rich(99, 30), 10);
        Due.is("rich(99, 31)", thirty.rich(99, 31), EnoughGive.BAD);
        // Behind both of a day, not between them.
        EnoughGive both = Due.laid("b16,0;d5;g2,5,30,3,0;t0,4;w0,0,10;");
        Due.is("rich(99, 3): both doubled", both.rich(99, 3), 100);
        Due.is("rich(7, 3): one less", both.rich(7, 3), 0);
        EnoughGive none = Due.laid("b1,0;d5;g1,5,30,6,0;t0,4;w0,0,10;");
        Due.is("rich(99, 5) of none that come", none.rich(99, 5), 0);
    }

    /** As much as is given by then, R at most; he is no giver. */
    private static void richByAsMuch() {
        String one = "b%d,%d;g1,5,30,0,0;t0,10;w0,0,10;";
        Due.is("rich(9, 0) by 20", Due.laid(String.format(one, 20, 1)).rich(9, 0), 0);
        Due.is("rich(10, 0) by 20", Due.laid(String.format(one, 20, 1)).rich(10, 0), 10);
        Due.is("rich(11, 0) by 20", Due.laid(String.format(one, 20, 1)).rich(11, 0), 10);
        Due.is("rich(99, 0) by 20", Due.laid(String.format(one, 20, 1)).rich(99, 0), 10);
        Due.is("rich(99, 0) by 21", Due.laid(String.format(one, 21, 1)).rich(99, 0), 0);
        Due.is("rich(99, 0) by two givers", Due.laid(String.format(one, 20, 2)).rich(99, 0), 0);
        Due.is("rich(0, 0) by 10", Due.laid(String.format(one, 10, 1)).rich(0, 0), 10);
        Due.is("rich(0, 0) by 11", Due.laid(String.format(one, 11, 1)).rich(0, 0), 0);
        Due.is("rich(1, 0) by 11", Due.laid(String.format(one, 11, 1)).rich(1, 0), 10);
        Due.is("rich(100, 0)", Due.laid(String.format(one, 10, 1)).rich(100, 0), EnoughGive.BAD);
        Due.is("rich(-1, 0)", Due.laid(String.format(one, 10, 1)).rich(-1, 0), EnoughGive.BAD);
    }

    /** What he added stands on the board for those behind him, as it is shown. */
    private static void richIsSeen() {
        EnoughGive x = Due.laid(String.format(TOLD_AND_SLY, 20, 6, 8));
        int[][] want = {{1, 0, 0}, {0, 0, 0}, {0, 0, 0}};
        for (int how = 0; how < 3; how++) {
            x.show(how);
            Due.is("rich(6, 2) shown by " + how, x.rich(6, 2), 100L * want[how][0]);
            Due.is("rich(5, 2) shown by " + how, x.rich(5, 2), 100L * want[how][1]);
            Due.is("rich(0, 2) shown by " + how, x.rich(0, 2), 100L * want[how][2]);
        }
        EnoughGive tens = Due.laid(String.format(TOLD_AND_SLY, 20, 6, 10));
        tens.show(2);
        Due.is("rich(4, 2): 10 in tens", tens.rich(4, 2), 100);
        Due.is("rich(3, 2): 9 in tens", tens.rich(3, 2), 0);
    }

    /** The first of the best days, from 0 to the last. */
    private static void richDays() {
        EnoughGive x = Due.laid(String.format(TOLD_AND_SLY, 19, 6, 7));
        Due.is("richDay(99)", x.richDay(99), 2);
        Due.is("richDay(6)", x.richDay(6), 2);
        Due.is("richDay(5)", x.richDay(5), 0);
        Due.is("richDay(0)", x.richDay(0), 0);
        Due.is("richDay(100)", x.richDay(100), EnoughGive.BAD);
        Due.is("richDay(-1)", x.richDay(-1), EnoughGive.BAD);
        for (int day : new int[] {0, 1, 29, 30}) {
            Due.is("richDay(99) of day " + day, Due.laid("b18,0;d30;g1,5,30," + day + ",0;t0,9;w0,0,10;").richDay(99), day);
            Due.is("richDay(99) of the last day " + day, Due.laid("b18,0;d" + day + ";g1,5,30," + day + ",0;t0,9;w0,0,10;").richDay(99), day);
        }
        Due.is("richDay(99) of none that come", Due.laid("d0;g1,1,1,1,0;w0,1,10;").richDay(99), 0);
        Due.is("richDay(99): built on any", Due.laid("b9,0;d5;g1,5,30,3,0;t0,9;w0,0,10;").richDay(99), 0);
    }

    // ---- TWO

    private static void second(String text, int want) {
        Due.is("two(1) by " + text, Due.laid(text).two(1), want);
    }

    /** By his kind; early and told ones as fair ones. */
    private static void twoByKinds() {
        // Worth 10, by half 5. A free one gives all that lacks if he is the last.
        second("b60,0;s5,50;g1,0,30,0,0;w0,10,10;", 10);
        second("b60,0;s6,50;g1,0,30,0,0;w0,10,10;", 0);
        second("b60,0;s10,50;g2,0,30,0,0;w0,10,10;", 0);
        second("b60,0;s5,50;g2,0,30,0,0;w0,10,10;", 100);
        second("b60,0;s5,50;g1,1,15,0,0;w0,10,10;", 10);
        second("b60,0;s6,50;g1,1,16,0,0;w0,10,10;", 0);
        second("b60,0;s10,50;g2,1,30,0,0;w0,10,10;", 100);
        second("b60,0;s11,50;g2,1,30,0,0;w0,10,10;", 0);
        second("b60,0;s3,50;g1,2,30,0,0;w0,10,10;", 10);
        second("b60,0;s4,50;g1,2,30,0,0;w0,10,10;", 0);
        second("b60,0;s10,50;e9,9;g2,3,30,0,0;w0,10,10;", 100);
        second("b60,0;s11,50;e9,9;g2,3,30,0,0;w0,10,10;", 0);
        second("b60,0;s5,50;g2,4,30,0,0;w0,10,10;", 100);
        second("b60,0;s6,50;g2,4,30,0,0;w0,10,10;", 0);
        second("b60,0;s10,50;g2,5,30,0,0;t0,0;w0,10,10;", 100);
        second("b60,0;s11,50;g2,5,30,0,0;t0,30;w0,10,10;", 0);
        // By two still to come each fair one gives half: the first of a purse of 2 gives 2 of 3, the other only what lacks.
        second("b1,0;s6,50;g1,5,2,0,0;t0,0;w0,10,10;g1,5,30,0,0;t1,0;w1,8,10;", 100);
        second("b1,0;s7,50;g1,5,2,0,0;t0,0;w0,10,10;g1,5,30,0,0;t1,0;w1,8,10;", 0);
    }

    /** The purse that is left behind the first gift; the worth times W by 100, cut. */
    private static void twoByPurse() {
        second("b60,0;s5,50;g1,1,14,0,0;w0,10,10;", 0);
        second("b60,0;s4,50;g1,1,14,0,0;w0,10,10;", 10);
        second("b60,0;s1,50;g1,1,10,0,0;w0,10,10;", 0);
        second("b60,0;s1,50;g1,1,11,0,0;w0,10,10;", 10);
        second("b60,0;s5,50;g1,5,8,0,0;t0,3;w0,10,10;", 10);
        second("b60,0;s5,50;g1,5,7,0,0;t0,3;w0,10,10;", 0);
        second("b60,0;s1,50;g1,5,7,0,0;t0,30;w0,10,10;", 0);
        int[][] cut = {{30, 99, 29}, {1, 99, 0}, {2, 50, 1}, {2, 49, 0}, {10, 10, 1}, {10, 9, 0}, {11, 18, 1}, {11, 19, 2}, {30, 10, 3}, {29, 10, 2}};
        for (int[] c : cut) {
            String giver = ",%d;g1,5,30,0,0;t0,0;w0," + c[0] + ",10;";
            if (c[2] > 0) second("b60,0;s" + c[2] + String.format(giver, c[1]), 10);
            second("b60,0;s" + (c[2] + 1) + String.format(giver, c[1]), 0);
        }
    }

    /** Its own board, shown as the first is; no number of givers is needed. */
    private static void twoBoards() {
        // On the first board 30 stand, on the second nothing: 5 lack there.
        second("b30,0;s5,50;g1,5,30,0,0;t0,30;w0,0,10;g1,1,30,1,0;w1,10,10;", 100);
        second("b60,8;s5,50;g1,5,30,0,0;t0,0;w0,10,10;", 10);
        // 5 of the first one stand on the second board, and the sly one makes up 9 if he sees them.
        EnoughGive x = Due.laid("b60,0;s9,50;g1,5,30,0,0;t0,0;w0,10,10;g1,4,30,1,0;w1,8,10;");
        long[] want = {100, 0, 0};
        for (int how = 0; how < 3; how++) {
            x.show(how);
            Due.is("two(1) shown by " + how, x.two(1), want[how]);
        }
    }

    /** Ways of the first, of the second, of both. */
    private static void twoOfWays() {
        // The first is built by the 9 of the warm one, who gives 1 to the second; that is built by the sly one.
        EnoughGive x = Due.laid("b9,0;s3,10;g1,2,30,0,0;w0,18,3;w0,0,7;g1,4,8,1,0;w1,30,4;w1,0,6;");
        Due.is("two(0)", x.two(0), 30);
        Due.is("two(1)", x.two(1), 40);
        Due.is("two(2)", x.two(2), 12);
        Due.is("two(0) is odds(0)", x.odds(0), 30);
        // Eight givers by three worths: each gives 1 to the first, and 1 to the second in nine ways of ten.
        EnoughGive eight = Due.laid("b8,8;s8,50;g8,5,30,0,0;t0,1;w0,9,8;w0,1,1;w0,2,1;");
        Due.is("two(0) of eight", eight.two(0), 100_000_000);
        Due.is("two(1) of eight by half of 9, of 1, of 2", eight.two(1), eightOfFairOnes());
        EnoughGive none = Due.laid("d0;s1,99;g1,1,9,1,0;w0,9,10;");
        for (int what = 0; what < 3; what++) Due.is("two(" + what + ") of none that come", none.two(what), 0);
        EnoughGive nothing = Due.laid("b9,0;s1,0;g1,1,9,0,0;w0,9,10;");
        long[] want = {10, 0, 0};
        for (int what = 0; what < 3; what++) Due.is("two(" + what + ") by 0 hundredths", nothing.two(what), want[what]);
    }

    /** Of eight in turn, who may give 4, 0 or 1 by 8, 1, 1 tenths, and give what lacks of 8 by those still to come. */
    private static long eightOfFairOnes() {
        long[] ways = {1, 0, 0, 0, 0, 0, 0, 0, 0};
        for (int r = 8; r >= 1; r--) {
            long[] next = new long[9];
            for (int given = 0; given <= 8; given++) {
                int share = (8 - given + r - 1) / r;
                next[given + Math.min(4, share)] += 8 * ways[given];
                next[given] += ways[given];
                next[given + Math.min(1, share)] += ways[given];
            }
            ways = next;
        }
        return ways[8];
    }

    // ---- evenings

    private static int draw(int z, int i) {
        BigInteger x = BigInteger.valueOf(7919).multiply(BigInteger.valueOf(z))
            .add(BigInteger.valueOf(6151).multiply(BigInteger.valueOf(i))).add(BigInteger.ONE);
        return x.multiply(x).mod(BigInteger.valueOf(65521)).mod(BigInteger.TEN).intValue();
    }

    /** Of each giver, from the first evening to the last; warm ones give half their worth, whatever the others do. */
    private static void draws() {
        for (int from : new int[] {0, 1000, 5460, 9960}) {
            EnoughGive x = Due.laid("b60,0;g8,2,30,0,0;w0,2,3;w0,12,3;w0,30,4;");
            for (int z = from; z < from + 40; z++) {
                for (int i = 0; i < 8; i++) {
                    int d = draw(z, i);
                    Due.is("evening(" + z + ", " + i + ", 0)", x.evening(z, i, 0), d < 3 ? 1 : d < 6 ? 6 : 15);
                }
            }
        }
    }

    /** Below its tenths and those told ahead together: each draw from 0 to 9 by each bound. */
    private static void drawnTenths() {
        for (int first = 1; first <= 9; first++) {
            for (int next = 1; first + next <= 9; next++) {
                EnoughGive x = Due.laid("b60,0;g1,2,30,0,0;w0,30," + first + ";w0,2," + next + ";w0,12," + (10 - first - next) + ";");
                boolean[] seen = new boolean[10];
                for (int z = 0; z < 60; z++) {
                    int d = draw(z, 0);
                    seen[d] = true;
                    Due.is("evening(" + z + ", 0, 0) by " + first + " and " + next, x.evening(z, 0, 0), d < first ? 15 : d < first + next ? 1 : 6);
                }
                for (int d = 0; d < 10; d++) Due.holds("a draw of " + d + " is among them", seen[d]);
            }
            EnoughGive two = Due.laid("b60,0;g1,2,30,0,0;w0,30," + first + ";w0,2," + (10 - first) + ";");
            for (int z = 0; z < 60; z++) Due.is("evening(" + z + ", 0, 0) by " + first, two.evening(z, 0, 0), draw(z, 0) < first ? 15 : 1);
        }
    }

    /** What each gives and has, what is given, if it is built; by the number of the giver, not by his place. */
    private static void evenings() {
        EnoughGive x = Due.laid("b16,2;p3;g2,2,30,5,0;w0,2,3;w0,12,3;w0,30,4;g1,2,30,0,0;w1,2,5;w1,20,5;g1,2,30,10,0;w2,1,10;");
        for (int z : new int[] {0, 1, 2, 3, 17, 4000, 9998, 9999}) {
            int[] worths = new int[3];
            int sum = 0;
            for (int i = 0; i < 3; i++) {
                int d = draw(z, i);
                worths[i] = i == 2 ? (d < 5 ? 2 : 20) : d < 3 ? 2 : d < 6 ? 12 : 30;
                sum += worths[i] / 2;
            }
            Due.is("whole(" + z + ", 0)", x.whole(z, 0), sum);
            Due.is("whole(" + z + ", 1)", x.whole(z, 1), sum >= 16 ? 1 : 0);
            for (int i = 0; i < 3; i++) {
                Due.is("evening(" + z + ", " + i + ", 0)", x.evening(z, i, 0), worths[i] / 2);
                Due.is("evening(" + z + ", " + i + ", 1)", x.evening(z, i, 1), sum >= 16 ? worths[i] / 2 : 3);
            }
            Due.is("evening(" + z + ", 3, 0)", x.evening(z, 3, 0), -1004);
            Due.is("evening(" + z + ", 4, 0)", x.evening(z, 4, 0), -1001);
        }
        String before = Seen.of(x);
        x.whole(9999, 1);
        x.evening(0, 0, 1);
        Due.holds("nothing changes by an evening", before.equals(Seen.of(x)));
    }

    // ---- KEPT

    /** 2 at most; taken back the last one first. */
    private static void keptBoards() {
        EnoughGive x = new EnoughGive();
        Due.is("back() of none", x.back(), EnoughGive.NO);
        Due.is("keep() of the first", x.keep(), 1);
        Due.is("count(4) of one", x.count(4), 1);
        Due.is("back() of one", x.back(), 0);
        Due.is("count(4) of none", x.count(4), 0);
        Due.is("back() of none again", x.back(), EnoughGive.NO);
        for (int round = 0; round < 3; round++) {
            x.row(0, round);
            Due.is("keep() of the first", x.keep(), 1);
            x.row(0, 20 + round);
            x.show(2);
            Due.is("keep() of the second", x.keep(), 2);
            x.row(0, 30);
            x.show(1);
            Due.is("keep() of a third", x.keep(), EnoughGive.FULL);
            Due.is("count(4) of two", x.count(4), 2);
            Due.is("row(0, 30) behind a third", x.row(0, 30), 30);
            Due.is("show(1) behind a third", x.show(1), 1);
            Due.is("back() of the second", x.back(), 1);
            Due.is("back(): the second row", x.row(0, 7), 20 + round);
            Due.is("back(): the second shown", x.show(1), 2);
            Due.is("keep() of another second", x.keep(), 2);
            Due.is("back() of another second", x.back(), 1);
            Due.is("back(): another second row", x.row(0, 9), 7);
            Due.is("back(): another second shown", x.show(1), 1);
            Due.is("back() of the first", x.back(), 0);
            Due.is("back(): the first row", x.row(0, 9), round);
            Due.is("back(): the first shown", x.show(0), 0);
        }
    }

    /** The row of all givers is kept, those that do not come, too; a new text leaves nothing kept. */
    private static void keptWhole() {
        EnoughGive x = Due.laid("d0;g7,1,9,0,0;w0,9,10;g1,1,9,1,0;w1,9,10;");
        for (int i = 0; i < 8; i++) x.row(i, i + 1);
        x.keep();
        for (int i = 0; i < 8; i++) x.row(i, 30 - i);
        x.keep();
        for (int i = 0; i < 8; i++) x.row(i, 0);
        x.back();
        for (int i = 0; i < 8; i++) Due.is("back(): row(" + i + ", ..) of the second", x.row(i, 0), 30 - i);
        x.back();
        for (int i = 0; i < 8; i++) Due.is("back(): row(" + i + ", ..) of the first", x.row(i, 0), i + 1);
        x.row(3, 3);
        x.show(2);
        x.keep();
        x.keep();
        Due.is("lay() with two kept", x.lay(), 8);
        Due.is("lay(): count(4)", x.count(4), 0);
        Due.is("lay(): back()", x.back(), EnoughGive.NO);
        Due.is("lay(): row(3, ..)", x.row(3, 0), 0);
        Due.is("lay(): show(..)", x.show(0), 0);
        Due.is("lay(): keep()", x.keep(), 1);
    }
}
