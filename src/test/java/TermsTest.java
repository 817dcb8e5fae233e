/** A call that tries one term otherwise leaves the others as told: SHOWN, the EXTRA, the givers needed, the last DAY. */
public final class TermsTest {
    private static final String TOLD_19 = "g1,5,30,0,0;t0,19;w0,0,10;";
    private static final String EARLY = "g1,3,30,2,0;w0,6,10;";

    public static void main(String[] args) {
        shownToEachKind();
        shownToSome();
        shownToSeveral();
        shownInEachTrial();
        extraByTheBar();
        extraByTheLastDay();
        extraByWhatIsShown();
        extraByTheRich();
        extraJudged();
        extraOutOfThePurse();
        secondAsFairOnes();
        neededInEachTrial();
        lastDayInEachTrial();
        restsByNoOtherTerm();
        judgedByKinds();
        rowIsForItself();
        allItsCalls();
        Due.end("terms in each call");
    }

    // ---- what is SHOWN

    private static void gifts(String text, int i, int... want) {
        EnoughGive x = Due.laid(text);
        for (int how = 0; how < want.length; how++) {
            x.show(how);
            Due.is("gift of " + i + " shown by " + how + ", by " + text, x.evening(0, i, 0), want[how]);
        }
    }

    /** Of a bar of 25 19 are given: just so 6 lack, of nothing 25, in tens 15. */
    private static void shownToEachKind() {
        String text = "b25,0;e9,%d;" + TOLD_19 + "g1,%d,30,1,0;w1,30,10;t1,7;";
        gifts(String.format(text, 0, 0), 1, 6, 25, 15);
        gifts(String.format(text, 0, 1), 1, 6, 25, 15);
        gifts(String.format(text, 0, 2), 1, 15, 15, 15);
        gifts(String.format(text, 1, 3), 1, 6, 25, 15);
        gifts(String.format(text, 0, 3), 1, 6, 25, 15);
        gifts(String.format(text, 0, 4), 1, 6, 25, 15);
        gifts(String.format(text, 0, 5), 1, 7, 7, 7);
    }

    /** The same with 10 to give: all or nothing of free and sly ones, 10 of fair ones, 12 of early ones by an extra of 2. */
    private static void shownToSome() {
        String text = "b25,0;e2,%d;" + TOLD_19 + "g1,%d,30,1,0;w1,10,10;";
        gifts(String.format(text, 0, 0), 1, 6, 0, 0);
        gifts(String.format(text, 0, 1), 1, 6, 10, 10);
        gifts(String.format(text, 1, 3), 1, 6, 12, 12);
        gifts(String.format(text, 0, 3), 1, 6, 10, 10);
        gifts(String.format(text, 0, 4), 1, 6, 0, 0);
    }

    /** How many are still to come is shown, however the gifts are. */
    private static void shownToSeveral() {
        String text = "b25,0;" + TOLD_19 + "g2,1,30,1,1;w1,30,10;";
        gifts(text, 1, 3, 13, 8);
        // In tens 27 are shown as 20 to the second.
        gifts(text, 2, 3, 25, 5);
    }

    /** Each call goes by what is shown now, and by what is shown later when it is called again. */
    private static void shownInEachTrial() {
        // The early one gives 2 and the extra, the sly one the 4 that lack, if he sees that they are no more.
        EnoughGive extra = Due.laid("b10,0;e0,0;g1,3,30,0,0;w0,2,10;g1,4,4,0,0;w1,4,10;");
        int[] extras = {4, 8, 8};
        // Doubled the told one's 6 are 12: the sly one gives the 8 that lack, if he sees that.
        EnoughGive rich = Due.laid("b20,2;d5;g1,5,30,2,0;t0,6;w0,0,10;g1,4,30,0,0;w1,8,10;");
        int[] days = {2, 0, 0};
        // 9 are told, the free one gives the 3 that lack of 12, on day 5; of nothing shown, in tens he can't.
        EnoughGive day = Due.laid("b12,0;g1,5,30,3,0;t0,9;w0,0,10;g1,0,30,5,0;w1,3,10;");
        int[] bestDays = {5, 0, 0};
        // Behind 10 told ones the sly one's 5 make 15 of it just so and in tens, of nothing shown by a bar of 5 alone.
        EnoughGive bar = Due.laid("b1,0;c199;g1,5,30,0,0;t0,10;w0,0,10;g1,4,30,0,0;w1,5,10;");
        int[] bars = {16, 11, 16};
        for (int round = 0; round < 2; round++) {
            for (int how = 0; how < 3; how++) {
                extra.show(how);
                Due.is("extra(10) shown by " + how, extra.extra(10), extras[how]);
                rich.show(how);
                Due.is("richDay(99) shown by " + how, rich.richDay(99), days[how]);
                day.show(how);
                Due.is("bestDay() shown by " + how, day.bestDay(), bestDays[how]);
                bar.show(how);
                Due.is("bestBar(0) shown by " + how, bar.bestBar(0), bars[how]);
            }
        }
    }

    // ---- the EXTRA

    /** The early one gives 6, and the extra more by its day: the first bar by which it is not built. */
    private static void extraByTheBar() {
        String text = "b9,0;c199;e%d,%d;" + EARLY;
        int[][] cases = {{4, 2, 11}, {4, 3, 11}, {4, 1, 7}, {0, 2, 7}, {9, 2, 16}};
        for (int[] c : cases) {
            EnoughGive x = Due.laid(String.format(text, c[0], c[1]));
            Due.is("bestBar(0) by an extra of " + c[0] + " by day " + c[1], x.bestBar(0), c[2]);
            Due.is("bestBar(1) by an extra of " + c[0] + " by day " + c[1], x.bestBar(1), 0);
        }
    }

    private static void extraByTheLastDay() {
        String text = "b10,0;e%d,%d;" + EARLY;
        int[][] cases = {{4, 2, 2}, {4, 30, 2}, {4, 1, 0}, {3, 2, 0}};
        for (int[] c : cases) {
            EnoughGive x = Due.laid(String.format(text, c[0], c[1]));
            Due.is("bestDay() by an extra of " + c[0] + " by day " + c[1], x.bestDay(), c[2]);
            Due.is("odds(0) by an extra of " + c[0] + " by day " + c[1], x.odds(0), c[2] > 0 ? 10 : 0);
            Due.is("whole(0, 0) by an extra of " + c[0] + " by day " + c[1], x.whole(0, 0), c[1] < 2 ? 6 : 6 + c[0]);
        }
    }

    /** Two must give; the second has nothing but the extra to give, and that where something lacks: if nothing is shown. */
    private static void extraByWhatIsShown() {
        String text = "b10,2;e%d,%d;g1,5,30,0,0;t0,10;w0,0,10;g1,3,30,1,0;w1,0,10;";
        Due.is("bestShow() by the extra", Due.laid(String.format(text, 4, 1)).bestShow(), 1);
        Due.is("bestShow() behind the extra's day", Due.laid(String.format(text, 4, 0)).bestShow(), 0);
        Due.is("bestShow() by an extra of 0", Due.laid(String.format(text, 0, 1)).bestShow(), 0);
    }

    private static void extraByTheRich() {
        String text = "b20,0;e%d,%d;" + EARLY;
        int[][] cases = {{4, 2, 10}, {4, 1, 0}, {3, 2, 0}};
        for (int[] c : cases) {
            EnoughGive x = Due.laid(String.format(text, c[0], c[1]));
            Due.is("rich(99, 2) by an extra of " + c[0] + " by day " + c[1], x.rich(99, 2), c[2]);
            Due.is("richDay(99) by an extra of " + c[0] + " by day " + c[1], x.richDay(99), c[2] > 0 ? 2 : 0);
        }
    }

    private static void extraJudged() {
        int[][] cases = {{4, 2, 10}, {4, 1, 6}, {0, 2, 6}, {9, 9, 15}};
        for (int[] c : cases) {
            EnoughGive x = Due.laid(String.format("b60,0;e%d,%d;" + EARLY, c[0], c[1]));
            for (int gift = 0; gift <= 30; gift++) {
                x.row(0, gift);
                Due.is("judge() of " + gift + " by an extra of " + c[0] + " by day " + c[1], x.judge(), gift == c[2] ? EnoughGive.NONE : 0);
            }
        }
    }

    /** What he gave more by the extra is out of the purse for the second wish. */
    private static void extraOutOfThePurse() {
        String text = "b60,0;s1,50;e%d,0;g1,3,%d,0,0;w0,10,10;";
        Due.is("two(1): all of 19 given", Due.laid(String.format(text, 9, 19)).two(1), 0);
        Due.is("two(1): 19 of 20 given", Due.laid(String.format(text, 9, 20)).two(1), 10);
        Due.is("two(1): 18 of 19 given", Due.laid(String.format(text, 8, 19)).two(1), 10);
        Due.is("two(1): all of 18 given", Due.laid(String.format(text, 8, 18)).two(1), 0);
    }

    /** Early ones on the extra's day and told ones give their share of the second bar, not all that they may. */
    private static void secondAsFairOnes() {
        for (int kind : new int[] {1, 3, 5}) {
            String text = "b60,0;s6,50;e9,9;g1," + kind + ",30,0,0;t0,5;w0,10,10;g1,0,30,1,0;w1,%d,10;";
            // By two 3 of 6; the free one behind gives the other 3, if it is worth 3 to him.
            Due.is("two(1) behind kind " + kind + ", worth 3", Due.laid(String.format(text, 6)).two(1), 100);
            Due.is("two(1) behind kind " + kind + ", worth 2", Due.laid(String.format(text, 5)).two(1), 0);
        }
    }

    // ---- the givers needed, the last DAY

    private static void neededInEachTrial() {
        String days = "b9,%d;g1,5,30,2,0;t0,9;w0,0,10;g1,5,30,5,0;t1,1;w1,0,10;";
        int[] bestDays = {2, 2, 5, 0};
        // The early one gives the extra alone, ahead of the told one's 5.
        String extras = "b5,%d;g1,3,30,0,0;w0,0,10;g1,5,30,0,0;t1,5;w1,0,10;";
        int[] least = {0, 0, 1, EnoughGive.NONE};
        // Of nothing shown the sly one gives the bar a second time: needed only if two must give.
        String shows = "b9,%d;g1,5,30,0,0;t0,9;w0,0,10;g1,4,30,1,0;w1,9,10;";
        int[] bestShows = {0, 0, 1, 0};
        for (int need = 0; need < 4; need++) {
            Due.is("bestDay() by " + need + " givers", Due.laid(String.format(days, need)).bestDay(), bestDays[need]);
            Due.is("extra(10) by " + need + " givers", Due.laid(String.format(extras, need)).extra(10), least[need]);
            Due.is("bestShow() by " + need + " givers", Due.laid(String.format(shows, need)).bestShow(), bestShows[need]);
        }
    }

    private static void lastDayInEachTrial() {
        String told = "b9,0;c199;d%d;g1,5,30,3,0;t0,5;w0,0,10;g1,5,30,4,0;t1,9;w1,0,10;";
        int[] bars = {1, 6, 15, 15};
        int[] odds = {0, 0, 100, 100};
        int[] mades = {0, 1, 31, 31};
        for (int k = 0; k < 4; k++) {
            EnoughGive x = Due.laid(String.format(told, k + 2));
            Due.is("bestBar(0) by the last day " + (k + 2), x.bestBar(0), bars[k]);
            Due.is("wrong(0) by the last day " + (k + 2), x.wrong(0), odds[k]);
            Due.is("bestDay() by the last day " + (k + 2), x.bestDay(), 4);
            x.row(0, 1);
            x.row(1, 30);
            Due.is("made(0) by the last day " + (k + 2), x.made(0), mades[k]);
        }
        String early = "b10,0;d%d;e0,9;g1,3,30,4,0;w0,6,10;";
        Due.is("extra(10) of one that comes", Due.laid(String.format(early, 4)).extra(10), 4);
        Due.is("extra(10) of one that does not", Due.laid(String.format(early, 3)).extra(10), EnoughGive.NONE);
        String shows = "b9,2;d%d;g1,5,30,0,0;t0,9;w0,0,10;g1,1,30,5,0;w1,9,10;";
        Due.is("bestShow() of two that come", Due.laid(String.format(shows, 5)).bestShow(), 1);
        Due.is("bestShow() of one that comes", Due.laid(String.format(shows, 4)).bestShow(), 0);
    }

    /** At rest neither what is shown nor the kind, the extra, parts, the cost, the second wish and what is told are looked at. */
    private static void restsByNoOtherTerm() {
        Due.is("fails(), by looking at each three", failsOfThree(), 11);
        String[] more = {"", "e9,9;", "o1;", "c0;", "c199;", "s5,50;", "t0,30;", "e9,9;o1;c0;s5,50;t0,5;d30;"};
        for (String items : more) {
            for (int kind = 0; kind <= 5; kind++) {
                EnoughGive x = Due.laid("b7,2;p3;g3," + kind + ",5,0,1;w0,6,3;w0,4,7;" + items);
                for (int how = 0; how < 3; how++) {
                    x.show(how);
                    x.row(0, 5 * how);
                    String by = " of kind " + kind + " shown by " + how + ", by " + items;
                    // 36 threes of 7 together, less three times the 3 in which one is 6 or 7.
                    Due.is("just(-1)" + by, x.just(-1), 27);
                    for (int i = 0; i < 3; i++) Due.is("just(" + i + ")" + by, x.just(i), i == 0 ? 0 : i == 1 ? 2 : 5);
                    Due.is("fails()" + by, x.fails(), failsOfThree());
                }
            }
        }
    }

    /** Three of a worth of 6 and a purse of 5, a bar of 7 by two or more, a penny of 3: by looking at each three. */
    private static long failsOfThree() {
        long rests = 0;
        for (int g = 0; g < 216; g++) {
            int[] gifts = {g / 36, g / 6 % 6, g % 6};
            if (gifts[0] + gifts[1] + gifts[2] < 7 && rests(gifts)) rests++;
        }
        return rests;
    }

    private static boolean rests(int[] gifts) {
        for (int i = 0; i < 3; i++) {
            int first = gifts[(i + 1) % 3];
            int second = gifts[(i + 2) % 3];
            int has = gifts[i] > 0 ? 3 : 0;
            for (int x = 0; x <= 5; x++) {
                int who = (first > 0 ? 1 : 0) + (second > 0 ? 1 : 0) + (x > 0 ? 1 : 0);
                boolean built = first + second + x >= 7 && who >= 2;
                if ((built ? 6 - x : x > 0 ? 3 : 0) > has) return false;
            }
        }
        return true;
    }

    // ---- ROW

    /** Behind a told gift of 10 each kind is judged by what it would give of the 5 that lack of 15. */
    private static void judgedByKinds() {
        int[] due = {5, 5, 4, 5, 5, 9};
        for (int kind = 0; kind <= 5; kind++) {
            EnoughGive x = Due.laid("b15,0;e0,9;g1,5,30,0,0;t0,10;w0,0,10;g1," + kind + ",30,1,0;t1,9;w1,2,9;w1,8,1;");
            x.row(0, 10);
            for (int gift = 0; gift <= 30; gift++) {
                x.row(1, gift);
                Due.is("judge() of kind " + kind + " that gave " + gift, x.judge(), gift == due[kind] ? EnoughGive.NONE : 1);
            }
        }
        // A free one with one behind him would have given nothing, a fair one half.
        EnoughGive two = Due.laid("b15,0;g1,0,30,0,0;w0,30,10;g1,1,30,1,0;w1,30,10;");
        Due.is("judge() of a free one that gave nothing", two.judge(), 1);
        two.row(0, 15);
        Due.is("judge() of a free one that gave all", two.judge(), 0);
    }

    /** The row is told, judged and kept; what else is answered does not hang on it. */
    private static void rowIsForItself() {
        String text = "b12,2;c16;p1;e2,1;o1;s4,50;g2,1,9,0,2;g1,0,12,5,0;g1,3,9,1,0;w0,8,5;w0,2,5;w1,10,10;w2,6,4;w2,5,6;";
        EnoughGive x = Due.laid(text);
        EnoughGive y = Due.laid(text);
        for (int i = 0; i < 4; i++) y.row(i, 7 * i + 3);
        for (int what = 0; what < 2; what++) {
            for (int i = 0; i < 4; i++) {
                Due.is("mean beside a row", y.mean(i, what), x.mean(i, what));
                Due.is("evening beside a row", y.evening(321, i, what), x.evening(321, i, what));
                Due.is("just beside a row", y.just(i), x.just(i));
            }
            Due.is("wrong beside a row", y.wrong(what), x.wrong(what));
            Due.is("bestBar beside a row", y.bestBar(what), x.bestBar(what));
            Due.is("whole beside a row", y.whole(321, what), x.whole(321, what));
        }
        for (int what = 0; what < 3; what++) {
            Due.is("odds beside a row", y.odds(what), x.odds(what));
            Due.is("two beside a row", y.two(what), x.two(what));
        }
        Due.is("just(-1) beside a row", y.just(-1), x.just(-1));
        Due.is("fails() beside a row", y.fails(), x.fails());
        Due.is("bestDay() beside a row", y.bestDay(), x.bestDay());
        Due.is("bestShow() beside a row", y.bestShow(), x.bestShow());
        Due.is("extra(5) beside a row", y.extra(5), x.extra(5));
        Due.is("richDay(9) beside a row", y.richDay(9), x.richDay(9));
        for (int i = 0; i < 4; i++) Due.is("the row behind all that", y.row(i, 0), 7 * i + 3);
    }

    // ---- an object's calls

    /** The 512th call is answered as the first of its kind was. */
    private static void allItsCalls() {
        EnoughGive x = Due.written("b12,2;s4,50;g2,1,9,0,2;g1,3,12,5,0;w0,8,5;w0,2,5;w1,10,10;");
        x.lay();
        int calls = (x.count(3) + 7) / 8 + 2;
        long[] first = new long[13];
        for (int k = 0; calls < 512; k++, calls++) {
            long answer = look(x, k % first.length);
            if (k < first.length) first[k] = answer;
            else Due.is("look " + k % first.length + " by call " + (calls + 1), answer, first[k % first.length]);
        }
    }

    private static long look(EnoughGive x, int which) {
        switch (which) {
            case 0: return x.odds(0);
            case 1: return x.mean(0, 1);
            case 2: return x.wrong(1);
            case 3: return x.judge();
            case 4: return x.just(-1);
            case 5: return x.fails();
            case 6: return x.bestBar(1);
            case 7: return x.bestDay();
            case 8: return x.extra(7);
            case 9: return x.bestShow();
            case 10: return x.richDay(9);
            case 11: return x.two(2);
            default: return x.evening(7, 2, 1);
        }
    }
}
