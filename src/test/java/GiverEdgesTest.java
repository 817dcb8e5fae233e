/** The bounds that the document's second part names: who comes, what each KIND gives, BUILT, HAS, ODDS, SHOULD, ROW, JUDGED. */
public final class GiverEdgesTest {
    // A told one ahead, so that something is given already.
    private static final String AHEAD = "g1,5,30,0,0;t0,%d;w0,0,10;";

    public static void main(String[] args) {
        comeByDays();
        comeByTheLastDay();
        slyOnesCome();
        mayGive();
        shown();
        lack();
        stillToCome();
        free();
        fair();
        warm();
        early();
        sly();
        told();
        builtByBar();
        builtByGivers();
        hasIfBuilt();
        hasExtra();
        hasParts();
        hasIfNot();
        ways();
        means();
        should();
        rowOfGifts();
        judged();
        judgedByTheBoard();
        madeByTheRow();
        Due.end("edges of givers");
    }

    private static void places(String text, int... want) {
        EnoughGive x = Due.laid(text);
        for (int i = 0; i < want.length; i++) Due.is("place of " + i + " by " + text, x.giver(i, 3), want[i]);
    }

    // ---- who comes

    /** In order of days, of one day by their number. */
    private static void comeByDays() {
        places("g8,1,1,3,0;w0,1,10;", 0, 1, 2, 3, 4, 5, 6, 7);
        places("g2,1,1,5,0;w0,1,10;g1,1,1,4,0;w1,1,10;g1,1,1,5,0;w2,1,10;g1,1,1,4,0;w3,1,10;", 2, 3, 0, 4, 1);
        places("g3,1,1,0,3;w0,1,10;g3,1,1,1,3;w1,1,10;", 0, 2, 4, 1, 3, 5);
        places("g1,1,1,1,0;w0,1,10;g1,1,1,0,0;w1,1,10;", 1, 0);
        EnoughGive x = Due.laid("g2,1,1,5,1;w0,1,10;g2,2,1,4,1;w1,1,10;");
        int[][] want = {{0, 1, 5, 1}, {0, 1, 6, 3}, {1, 2, 4, 0}, {1, 2, 5, 2}};
        for (int i = 0; i < 4; i++) {
            for (int what = 0; what < 4; what++) Due.is("giver(" + i + ", " + what + ")", x.giver(i, what), want[i][what]);
        }
    }

    /** Who would come behind the last day does not; on it he does. */
    private static void comeByTheLastDay() {
        for (int last : new int[] {0, 1, 9, 29, 30}) {
            for (int day = Math.max(0, last - 1); day <= Math.min(30, last + 1); day++) {
                EnoughGive x = Due.laid("d" + last + ";b1,0;g1,5,9," + day + ",0;t0,1;w0,9,10;");
                boolean comes = day <= last;
                String at = " of day " + day + " by the last day " + last;
                Due.is("giver(0, 2)" + at, x.giver(0, 2), comes ? day : EnoughGive.NONE);
                Due.is("giver(0, 3)" + at, x.giver(0, 3), comes ? 0 : EnoughGive.NONE);
                Due.is("giver(0, 0)" + at, x.giver(0, 0), 0);
                Due.is("giver(0, 1)" + at, x.giver(0, 1), 5);
                Due.is("count(0)" + at, x.count(0), 1);
                Due.is("count(1)" + at, x.count(1), comes ? 1 : 0);
                Due.is("odds(0)" + at, x.odds(0), comes ? 10 : 0);
                Due.is("mean(0, 0)" + at, x.mean(0, 0), comes ? 10 : EnoughGive.NONE);
                Due.is("evening(0, 0, 0)" + at, x.evening(0, 0, 0), comes ? 1 : -1004);
                Due.is("just(0)" + at, x.just(0), comes ? 1 : EnoughGive.BAD);
            }
        }
        places("d5;g3,1,1,4,1;w0,1,10;g2,1,1,5,1;w1,1,10;", 0, 1, EnoughGive.NONE, 2, EnoughGive.NONE);
    }

    /** Sly ones come on the last day, whenever they would, there by their number among the others. */
    private static void slyOnesCome() {
        for (int day : new int[] {0, 4, 5, 6, 30}) {
            EnoughGive x = Due.laid("d5;g1,4,1," + day + ",0;w0,1,10;");
            Due.is("a sly one of day " + day, x.giver(0, 2), 5);
            Due.is("a sly one of day " + day + " comes", x.count(1), 1);
        }
        places("d5;g1,1,1,5,0;w0,1,10;g1,4,1,0,0;w1,1,10;g1,1,1,5,0;w2,1,10;", 0, 1, 2);
        places("d5;g1,4,1,0,0;w0,1,10;g1,1,1,5,0;w1,1,10;g1,1,1,4,0;w2,1,10;", 1, 2, 0);
        places("d5;g3,4,1,30,9;w0,1,10;g2,1,1,5,1;w1,1,10;", 0, 1, 2, 3, EnoughGive.NONE);
        Due.is("sly ones of the last day 0", Due.laid("d0;g2,4,1,9,9;w0,1,10;").giver(1, 2), 0);
    }

    // ---- what a giver may give, and what the board shows

    /** The lesser of worth and purse. */
    private static void mayGive() {
        int[][] cases = {{7, 8, 7}, {8, 8, 8}, {9, 8, 8}, {0, 30, 0}, {30, 0, 0}, {0, 0, 0}, {30, 30, 30}, {30, 29, 29}, {29, 30, 29}};
        for (int[] c : cases) Due.gives("b60,0;g1,1," + c[1] + ",0,0;w0," + c[0] + ",10;", 0, c[2]);
    }

    /** Behind a told one a fair one gives what lacks of 25: it tells what the board showed. */
    private static void shown() {
        int[] gifts = {0, 1, 9, 10, 11, 19, 20, 21, 24, 25, 26, 29, 30};
        for (int gift : gifts) {
            EnoughGive x = Due.laid("b25,0;" + String.format(AHEAD, gift) + "g1,1,30,1,0;w1,30,10;");
            Due.is("just so, of " + gift, x.evening(0, 1, 0), Math.max(0, 25 - gift));
            x.show(2);
            int tens = gift < 10 ? 0 : gift < 20 ? 10 : gift < 30 ? 20 : 30;
            Due.is("in tens, of " + gift, x.evening(0, 1, 0), Math.max(0, 25 - tens));
            x.show(1);
            Due.is("nothing, of " + gift, x.evening(0, 1, 0), 25);
            x.show(0);
            Due.is("just so again, of " + gift, x.evening(0, 1, 0), Math.max(0, 25 - gift));
        }
    }

    /** What lacks is 0 at least, for each kind that looks at it, however much is over. */
    private static void lack() {
        for (int kind : new int[] {0, 1, 3, 4}) {
            for (int gift : new int[] {19, 20, 21, 30}) {
                String text = "b20,0;e0,9;" + String.format(AHEAD, gift) + "g1," + kind + ",30,9,0;w1,30,10;";
                Due.gives(text, 1, Math.max(0, 20 - gift));
            }
        }
    }

    /** Still to come are the giver himself and those behind him; those that do not come are none of them. */
    private static void stillToCome() {
        int[] firsts = {24, 12, 8, 6, 5, 4, 4, 3};
        for (int n = 1; n <= 8; n++) Due.gives("b24,0;g" + n + ",1,30,0,1;w0,30,10;", 0, firsts[n - 1]);
        Due.gives("b24,0;d1;g8,1,30,0,1;w0,30,10;", 0, 12);
        Due.gives("b24,0;d0;g8,1,30,0,1;w0,30,10;", 0, 24);
        // Those ahead are to come no more: behind one that gives nothing two of three share.
        Due.gives("b24,0;g1,5,30,0,0;w0,30,10;g2,1,30,1,1;w1,30,10;", 1, 12);
        Due.gives("b24,0;g1,5,30,0,0;w0,30,10;g2,1,30,1,1;w1,30,10;", 2, 12);
    }

    // ---- the kinds

    /** All that lacks, if he is the last and it is no more than he may give. */
    private static void free() {
        Due.gives("b9,0;g1,0,30,0,0;w0,8,10;", 0, 0);
        Due.gives("b9,0;g1,0,30,0,0;w0,9,10;", 0, 9);
        Due.gives("b9,0;g1,0,30,0,0;w0,10,10;", 0, 9);
        Due.gives("b9,0;g1,0,8,0,0;w0,30,10;", 0, 0);
        Due.gives("b9,0;g1,0,9,0,0;w0,30,10;", 0, 9);
        Due.gives("b1,0;g1,0,0,0,0;w0,30,10;", 0, 0);
        String two = "b9,0;g1,0,30,0,0;w0,30,10;g1,0,30,%d,0;w1,30,10;";
        Due.gives(String.format(two, 9), 0, 0);
        Due.gives(String.format(two, 9), 1, 9);
        Due.gives(String.format(two, 10), 0, 9);
        Due.gives("b30,0;" + String.format(AHEAD, 29) + "g1,0,1,1,0;w1,1,10;", 1, 1);
        Due.gives("b30,0;" + String.format(AHEAD, 28) + "g1,0,1,1,0;w1,1,10;", 1, 0);
        Due.gives("b30,0;" + String.format(AHEAD, 30) + "g1,0,1,1,0;w1,1,10;", 1, 0);
    }

    /** What lacks by those still to come, rounded up; what he may give at most. */
    private static void fair() {
        int[][] cases = {{1, 2, 1}, {2, 2, 1}, {3, 2, 2}, {8, 4, 2}, {9, 4, 3}, {12, 4, 3}, {13, 4, 4}, {1, 8, 1}, {8, 8, 1}, {9, 8, 2}, {60, 8, 8}, {60, 1, 30}};
        for (int[] c : cases) Due.gives("b" + c[0] + ",0;g" + c[1] + ",1,30,0,0;w0,30,10;", 0, c[2]);
        Due.gives("b12,0;g2,1,5,0,0;w0,30,10;", 0, 5);
        Due.gives("b12,0;g2,1,6,0,0;w0,30,10;", 0, 6);
        Due.gives("b12,0;g2,1,7,0,0;w0,30,10;", 0, 6);
        Due.gives("b12,0;g2,1,30,0,0;w0,5,10;", 0, 5);
        Due.gives("b12,0;g2,1,5,0,0;w0,30,10;", 1, 5);
    }

    /** Half of what he may give, rounded up, whatever lacks. */
    private static void warm() {
        int[][] cases = {{0, 0}, {1, 1}, {2, 1}, {3, 2}, {9, 5}, {29, 15}, {30, 15}};
        for (int[] c : cases) {
            Due.gives("b60,0;g1,2,30,0,0;w0," + c[0] + ",10;", 0, c[1]);
            Due.gives("b1,0;g1,2," + c[0] + ",0,0;w0,30,10;", 0, c[1]);
            Due.gives("b1,0;" + String.format(AHEAD, 30) + "g2,2,30,0,0;w1," + c[0] + ",10;", 2, c[1]);
        }
    }

    /** By the day of the extra with the extra more, the purse and what lacks at most; behind it as a fair one. */
    private static void early() {
        String one = "b60,0;d30;e9,%d;g2,3,%d,%d,0;w0,10,10;";
        Due.gives(String.format(one, 5, 30, 5), 0, 19);
        Due.gives(String.format(one, 5, 30, 4), 0, 19);
        Due.gives(String.format(one, 5, 30, 6), 0, 10);
        Due.gives(String.format(one, 30, 30, 30), 0, 19);
        Due.gives(String.format(one, 0, 30, 0), 0, 19);
        Due.gives(String.format(one, 0, 30, 1), 0, 10);
        Due.gives(String.format(one, 5, 20, 5), 0, 19);
        Due.gives(String.format(one, 5, 19, 5), 0, 19);
        Due.gives(String.format(one, 5, 18, 5), 0, 18);
        Due.gives(String.format(one, 5, 0, 5), 0, 0);
        // He may give the lesser of both, and the extra is more than that: of a purse of 10 no more is there.
        Due.gives("b60,0;e9,0;g1,3,10,0,0;w0,5,10;", 0, 10);
        Due.gives("b60,0;e4,0;g1,3,10,0,0;w0,5,10;", 0, 9);
        String lacks = "b%d,0;e9,0;g2,3,30,%d,0;w0,10,10;";
        Due.gives(String.format(lacks, 18, 0), 0, 18);
        Due.gives(String.format(lacks, 19, 0), 0, 19);
        Due.gives(String.format(lacks, 20, 0), 0, 19);
        Due.gives(String.format(lacks, 20, 0), 1, 1);
        Due.gives(String.format(lacks, 18, 1), 0, 9);
        Due.gives(String.format(lacks, 18, 1), 1, 9);
        // Without an extra it is 0 by day 0: a day of the extra all the same.
        Due.gives("b9,0;g2,3,30,0,0;w0,9,10;", 0, 9);
        Due.gives("b9,0;g2,3,30,1,0;w0,9,10;", 0, 5);
        Due.gives("b9,0;e0,1;g2,3,30,1,0;w0,9,10;", 0, 9);
        // The extra is his alone: one of another kind gives as ever on its days.
        Due.gives("b60,0;e9,0;g1,1,30,0,0;w0,10,10;", 0, 10);
    }

    /** As a free one, whoever is still to come. */
    private static void sly() {
        Due.gives("b9,0;g2,4,30,0,0;w0,8,10;", 0, 0);
        Due.gives("b9,0;g2,4,30,0,0;w0,9,10;", 0, 9);
        Due.gives("b9,0;g2,4,30,0,0;w0,10,10;", 0, 9);
        Due.gives("b9,0;g2,4,8,0,0;w0,30,10;", 0, 0);
        Due.gives("b9,0;g2,4,9,0,0;w0,30,10;", 0, 9);
        Due.gives("b9,0;g2,4,9,0,0;w0,30,10;", 1, 0);
        Due.gives("b9,0;g8,4,9,0,0;w0,30,10;", 0, 9);
    }

    /** What he is told, his purse at most, whatever it is worth to him and whatever lacks. */
    private static void told() {
        Due.gives("b1,0;g1,5,30,0,0;t0,0;w0,30,10;", 0, 0);
        Due.gives("b1,0;g1,5,30,0,0;t0,1;w0,0,10;", 0, 1);
        Due.gives("b1,0;g1,5,30,0,0;t0,30;w0,0,10;", 0, 30);
        Due.gives("b1,0;g1,5,29,0,0;t0,30;w0,0,10;", 0, 29);
        Due.gives("b1,0;g1,5,0,0,0;t0,30;w0,30,10;", 0, 0);
        Due.gives("b1,0;g2,5,12,0,0;t0,12;w0,0,10;", 1, 12);
        Due.gives("b1,0;g2,5,12,0,0;t0,11;w0,0,10;", 1, 11);
        Due.gives("b1,0;g2,5,12,0,0;t0,13;w0,0,10;", 1, 12);
    }

    // ---- BUILT, HAS

    private static void builtByBar() {
        for (int bar = 1; bar <= 60; bar++) {
            int half = bar / 2;
            String text = "b" + bar + ",0;g1,5,30,0,0;t0," + half + ";w0,0,10;g1,5,30,0,0;t1,%d;w1,0,10;";
            Due.built(String.format(text, bar - half), 1);
            Due.built(String.format(text, bar - half - 1), 0);
            if (bar < 60) Due.built(String.format(text, bar - half).replace("b" + bar, "b" + (bar + 1)), 0);
        }
        Due.is("built by more than the bar", Due.laid("b1,0;g8,5,30,0,0;t0,30;w0,0,10;").whole(0, 0), 240);
        Due.built("b1,0;g8,5,30,0,0;t0,30;w0,0,10;", 1);
    }

    /** By N or more who gave 1 or more: who gave nothing is none of them. */
    private static void builtByGivers() {
        for (int need = 0; need <= 8; need++) {
            for (int n = 1; n <= 7; n++) {
                String text = "b1," + need + ";g" + n + ",5,30,0,0;t0,1;w0,0,10;g1,5,30,0,0;t1,0;w1,0,10;";
                Due.built(text, n >= need ? 1 : 0);
            }
        }
        Due.built("b1,1;g1,5,30,0,0;t0,0;w0,0,10;", 0);
        Due.built("b1,0;g1,5,30,0,0;t0,0;w0,0,10;", 0);
        Due.built("b1,0;d0;g1,5,30,1,0;t0,30;w0,0,10;", 0);
    }

    /** If it is built the worth less the gift: below 0, too; who gave nothing has his worth whole. */
    private static void hasIfBuilt() {
        String two = "b5,0;p9;g1,5,30,0,0;t0,5;w0,%d,10;g1,5,30,0,0;t1,0;w1,%d,10;";
        Due.has(String.format(two, 6, 0), 0, 1);
        Due.has(String.format(two, 5, 0), 0, 0);
        Due.has(String.format(two, 4, 0), 0, -1);
        Due.has(String.format(two, 1, 0), 0, -4);
        Due.has(String.format(two, 0, 0), 1, 0);
        Due.has(String.format(two, 0, 30), 1, 30);
        Due.has("b5,0;g1,5,30,0,0;t0,30;w0,0,10;", 0, -30);
    }

    /** The extra more, if he gave 1 or more by its day. */
    private static void hasExtra() {
        String two = "b5,0;d30;e7,%d;g1,5,30,%d,0;t0,%d;w0,10,10;g1,5,30,0,0;t1,5;w1,0,10;";
        Due.has(String.format(two, 3, 3, 1), 0, 10 - 1 + 7);
        Due.has(String.format(two, 3, 2, 1), 0, 10 - 1 + 7);
        Due.has(String.format(two, 3, 4, 1), 0, 10 - 1);
        Due.has(String.format(two, 3, 3, 0), 0, 10);
        Due.has(String.format(two, 0, 0, 1), 0, 10 - 1 + 7);
        Due.has(String.format(two, 30, 30, 1), 0, 10 - 1 + 7);
        Due.has("b5,0;e7,9;g1,5,30,0,0;t0,4;w0,10,10;", 0, 0);
        // A sly one comes on the last day, whenever he would: behind the day of the extra.
        Due.has("b5,0;d4;e7,3;g1,4,30,0,0;w0,10,10;", 0, 10 - 5);
        Due.has("b5,0;d4;e7,4;g1,4,30,0,0;w0,10,10;", 0, 10 - 5 + 7);
    }

    /** His gift times what is over by all that was given, cut. */
    private static void hasParts() {
        String three = "b%d,0;o1;g1,5,30,0,0;t0,5;w0,10,10;g1,5,30,0,0;t1,6;w1,10,10;g1,5,30,0,0;t2,0;w2,10,10;";
        // Nothing is over; 1 of 11: 5/11 and 6/11; 2: 10/11 and 12/11; 9: 45/11 and 54/11; 10: 50/11 and 60/11.
        int[][] cases = {{11, 0, 0}, {10, 0, 0}, {9, 0, 1}, {2, 4, 4}, {1, 4, 5}};
        for (int[] c : cases) {
            Due.has(String.format(three, c[0]), 0, 5 + c[1]);
            Due.has(String.format(three, c[0]), 1, 4 + c[2]);
            Due.has(String.format(three, c[0]), 2, 10);
        }
        Due.has(String.format(three, 12), 0, 0);
        // The greatest numbers: 30 times 239 by 240 is 29.875.
        Due.has("b1,0;o1;g8,5,30,0,0;t0,30;w0,0,10;", 7, -30 + 29);
        Due.has("b1,0;e9,0;o1;g8,5,30,0,0;t0,30;w0,30,10;", 7, 29 + 9);
    }

    /** If not, the penny, if he gave 1 or more; else 0: no worth, no extra, no parts. */
    private static void hasIfNot() {
        String two = "b60,0;p%d;e9,30;o1;g1,5,30,0,0;t0,%d;w0,30,10;g1,5,30,0,0;t1,29;w1,0,10;";
        Due.has(String.format(two, 4, 30), 0, 4);
        Due.has(String.format(two, 4, 1), 0, 4);
        Due.has(String.format(two, 4, 0), 0, 0);
        Due.has(String.format(two, 0, 1), 0, 0);
        // Enough is given, but by too few.
        Due.has("b5,2;p4;g1,5,30,0,0;t0,30;w0,30,10;", 0, 4);
    }

    // ---- WAYS

    /** All ways are ten to the power of how many come; the odds are in lowest terms. */
    private static void ways() {
        long all = 1;
        for (int n = 1; n <= 8; n++) {
            all *= 10;
            EnoughGive sure = Due.laid("b1,0;g" + n + ",5,1,0,0;t0,1;w0,1,10;");
            EnoughGive never = Due.laid("b60,0;g" + n + ",5,1,0,0;t0,1;w0,1,10;");
            long[] want = {all, 1, 1};
            long[] wantNever = {0, 0, 1};
            for (int what = 0; what < 3; what++) {
                Due.is("odds(" + what + ") of " + n + ", sure", sure.odds(what), want[what]);
                Due.is("odds(" + what + ") of " + n + ", never", never.odds(what), wantNever[what]);
            }
        }
        int[][] lowest = {{1, 1, 10}, {2, 1, 5}, {3, 3, 10}, {4, 2, 5}, {5, 1, 2}, {6, 3, 5}, {7, 7, 10}, {8, 4, 5}, {9, 9, 10}};
        for (int[] c : lowest) {
            EnoughGive x = Due.laid("b5,0;g1,1,9,0,0;w0,5," + c[0] + ";w0,4," + (10 - c[0]) + ";");
            for (int what = 0; what < 3; what++) Due.is("odds(" + what + ") by " + c[0] + " tenths", x.odds(what), c[what]);
        }
        // None that come: one way of one, in which nothing is given.
        EnoughGive none = Due.laid("d0;g8,1,9,1,0;w0,9,10;");
        for (int what = 0; what < 3; what++) Due.is("odds(" + what + ") of none", none.odds(what), what == 2 ? 1 : 0);
        // One way of 100 million, and all but one.
        EnoughGive one = Due.laid("b8,8;g8,1,1,0,0;w0,1,1;w0,0,9;");
        Due.is("odds(0): the rarest", one.odds(0), 1);
        Due.is("odds(2): the rarest", one.odds(2), 100_000_000);
        EnoughGive but = Due.laid("b1,0;g8,2,1,0,0;w0,0,1;w0,1,9;");
        Due.is("odds(0): all but the rarest", but.odds(0), 99_999_999);
        // The most ways: three worths of each of eight, in the first one and in the last one built.
        EnoughGive most = Due.laid("b8,8;g8,5,1,0,0;t0,1;w0,0,1;w0,1,1;w0,2,8;");
        Due.is("odds(0): all of the most", most.odds(0), 100_000_000);
        Due.is("wrong(0): all but the last", Due.laid("b8,8;c16;g8,5,1,0,0;t0,1;w0,0,1;w0,1,1;w0,2,8;").wrong(0), 100_000_000 - 16_777_216);
        Due.is("wrong(0): the first", Due.laid("b8,8;c1;g8,5,1,0,0;t0,1;w0,0,8;w0,1,1;w0,2,1;").wrong(0), 16_777_216);
    }

    private static void means() {
        EnoughGive least = Due.laid("b1,0;g8,5,30,0,0;t0,30;w0,0,10;");
        EnoughGive most = Due.laid("b1,0;e9,0;g7,5,30,0,0;t0,30;w0,30,10;g1,5,30,0,0;t1,1;w1,30,10;");
        for (int i = 0; i < 8; i++) {
            Due.is("mean(" + i + ", 0): the most", least.mean(i, 0), 3_000_000_000L);
            Due.is("mean(" + i + ", 1): the least", least.mean(i, 1), -3_000_000_000L);
        }
        Due.is("mean(7, 1): the most", most.mean(7, 1), 3_800_000_000L);
        EnoughGive late = Due.laid("d1;g2,1,9,1,1;w0,9,10;");
        Due.is("mean(0, 0) on the last day", late.mean(0, 0), 90);
        Due.is("mean(1, 0) behind it", late.mean(1, 0), EnoughGive.NONE);
        Due.is("mean(1, 1) behind it", late.mean(1, 1), EnoughGive.NONE);
        Due.is("mean(2, 0)", late.mean(2, 0), Long.MIN_VALUE);
    }

    /** The sum of all worths of those that come is what it costs, or more. */
    private static void should() {
        String two = "b%d,0;c%d;d9;g1,5,30,0,0;t0,9;w0,10,10;g1,1,30,9,0;w1,7,10;g1,1,30,10,0;w2,30,10;";
        Due.is("built: worth as much", Due.laid(String.format(two, 9, 17)).wrong(0), 0);
        Due.is("built: worth one less", Due.laid(String.format(two, 9, 18)).wrong(0), 100);
        Due.is("built: worth one more", Due.laid(String.format(two, 9, 16)).wrong(0), 0);
        Due.is("built: no way is missed", Due.laid(String.format(two, 9, 18)).wrong(1), 0);
        Due.is("not built: worth as much", Due.laid(String.format(two, 60, 17)).wrong(1), 100);
        Due.is("not built: worth one less", Due.laid(String.format(two, 60, 18)).wrong(1), 0);
        Due.is("not built: no way is needless", Due.laid(String.format(two, 60, 18)).wrong(0), 0);
        // The worth counts whole, the purse however small; and of a giver who gives nothing.
        Due.is("worth over the purse", Due.laid("b60,0;c20;g1,1,1,0,0;w0,20,10;").wrong(1), 10);
    }

    // ---- ROW

    private static void rowOfGifts() {
        EnoughGive x = Due.laid("d0;g7,1,9,0,0;w0,9,10;g1,1,9,1,0;w1,9,10;");
        for (int i = 0; i < 8; i++) {
            Due.is("row(" + i + ", 30)", x.row(i, 30), 0);
            Due.is("row(" + i + ", 31)", x.row(i, 31), EnoughGive.BAD);
            Due.is("row(" + i + ", -1)", x.row(i, -1), EnoughGive.BAD);
            Due.is("row(" + i + ", 0)", x.row(i, 0), 30);
            Due.is("row(" + i + ", " + i + ")", x.row(i, i), 0);
        }
        for (int i = 0; i < 8; i++) Due.is("row(" + i + ", ..) as told", x.row(i, 0), i);
        Due.is("row(8, 0)", x.row(8, 0), EnoughGive.BAD);
        Due.is("row(-1, 0)", x.row(-1, 0), EnoughGive.BAD);
    }

    /** With the greatest worths, wherever they are told; the first in order of those that come. */
    private static void judged() {
        for (String worths : new String[] {"w0,9,1;w0,3,9;", "w0,3,9;w0,9,1;", "w0,3,4;w0,9,1;w0,5,5;", "w0,9,10;"}) {
            EnoughGive x = Due.laid("b9,0;g1,1,30,0,0;" + worths);
            for (int gift = 0; gift <= 30; gift++) {
                x.row(0, gift);
                Due.is("judge() of " + gift + " by " + worths, x.judge(), gift == 9 ? EnoughGive.NONE : 0);
            }
        }
        // By places 2, 0, 1: of 12 each would give 4.
        EnoughGive x = Due.laid("b12,0;d9;g1,1,30,9,0;w0,30,10;g1,1,30,1,0;w1,30,10;g1,1,30,2,0;w2,30,10;g1,1,30,10,0;w3,30,10;");
        x.row(3, 7);
        Due.is("judge(): the first to come", x.judge(), 1);
        x.row(1, 4);
        Due.is("judge(): the second to come", x.judge(), 2);
        x.row(2, 4);
        Due.is("judge(): the last to come", x.judge(), 0);
        x.row(0, 4);
        Due.is("judge(): none", x.judge(), EnoughGive.NONE);
        x.row(1, 3);
        Due.is("judge(): the first again", x.judge(), 1);
        EnoughGive none = Due.laid("d0;g2,1,9,1,0;w0,9,10;");
        none.row(1, 9);
        Due.is("judge(): none that come", none.judge(), EnoughGive.NONE);
    }

    /** The board as the told gifts ahead of him made it, and as it is shown. */
    private static void judgedByTheBoard() {
        EnoughGive x = Due.laid("b25,0;g1,5,30,0,0;t0,19;w0,0,10;g1,1,30,1,0;w1,30,10;");
        x.row(0, 19);
        int[] lacks = {6, 25, 15};
        for (int how = 0; how < 3; how++) {
            x.show(how);
            x.row(1, lacks[how]);
            Due.is("judge() as shown by " + how, x.judge(), EnoughGive.NONE);
            x.row(1, lacks[how] - 1);
            Due.is("judge() as shown by " + how + ", one less", x.judge(), 1);
        }
        // Told 30 for each of two: nothing lacks for the second, who would have given half if it were as due.
        EnoughGive over = Due.laid("b10,0;g1,1,30,0,0;w0,5,10;g1,1,30,1,0;w1,5,10;");
        over.row(0, 5);
        over.row(1, 5);
        Due.is("judge(): as due", over.judge(), EnoughGive.NONE);
        over.row(0, 30);
        Due.is("judge(): the first gave too much", over.judge(), 0);
        over.row(1, 0);
        Due.is("judge(): the first, though the second is as due", over.judge(), 0);
    }

    /** What is given by those that come, over their purses, too; built by the bar and the givers. */
    private static void madeByTheRow() {
        EnoughGive x = Due.laid("b60,8;g8,1,0,0,0;w0,9,10;");
        Due.is("made(0) of nothing", x.made(0), 0);
        Due.is("made(1) of nothing", x.made(1), 0);
        for (int i = 0; i < 7; i++) x.row(i, 30);
        Due.is("made(0) of seven", x.made(0), 210);
        Due.is("made(1) of seven", x.made(1), 0);
        x.row(7, 1);
        Due.is("made(1) of eight", x.made(1), 1);
        x.row(7, 30);
        Due.is("made(0): the most", x.made(0), 240);
        for (int i = 0; i < 8; i++) x.row(i, i < 4 ? 8 : 7);
        Due.is("made(0): just enough", x.made(0), 60);
        Due.is("made(1): just enough", x.made(1), 1);
        x.row(0, 7);
        Due.is("made(1): one too little", x.made(1), 0);
        x.row(0, 9);
        Due.is("made(1): one over", x.made(1), 1);
        EnoughGive absent = Due.laid("b9,0;d0;g1,1,9,0,0;w0,9,10;g1,1,9,1,0;w1,9,10;");
        absent.row(1, 30);
        Due.is("made(0) of one that does not come", absent.made(0), 0);
        Due.is("made(1) of one that does not come", absent.made(1), 0);
        absent.row(0, 9);
        Due.is("made(0) of the one that comes", absent.made(0), 9);
        Due.is("made(1) of the one that comes", absent.made(1), 1);
    }
}
