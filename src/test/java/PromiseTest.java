/** One test for each promise: ordinary inputs, the edges that the document names, wrong inputs. */
public final class PromiseTest {
    private static final String THREE = "b10,2;d5;c16;p1;e2,1;o1;g2,1,9,0,2;g1,0,12,5,0;w0,8,5;w0,2,5;w1,10,10;";
    // Two fair ones, of whom each is worth 10 or 0 by halves; two are needed for the bar of 10.
    private static final String HALVES = "b10,2;d9;c15;p3;g2,1,30,0,1;w0,10,5;w0,0,5;";

    public static void main(String[] args) {
        newObject();
        write();
        wipe();
        faultOfTerms();
        faultOfSorts();
        lay();
        giver();
        show();
        odds();
        mean();
        wrong();
        row();
        judge();
        made();
        just();
        fails();
        bestBar();
        bestDay();
        extra();
        bestShow();
        rich();
        richDay();
        two();
        evening();
        whole();
        keepAndBack();
        count();
        kinds();
        Due.end("promises");
    }

    private static void newObject() {
        EnoughGive x = new EnoughGive();
        int[] counts = {1, 1, 1, 0, 0, 20, 9};
        for (int what = 0; what < counts.length; what++) Due.is("new: count(" + what + ")", x.count(what), counts[what]);
        Due.is("new: lay()", x.lay(), EnoughGive.NO);
        Due.is("new: wipe()", x.wipe(), 0);
        Due.is("new: fault()", x.fault(), EnoughGive.NONE);
        Due.is("new: giver(0, 0)", x.giver(0, 0), 0);
        Due.is("new: giver(0, 1)", x.giver(0, 1), 1);
        Due.is("new: giver(0, 2)", x.giver(0, 2), 0);
        Due.is("new: show(0)", x.show(0), 0);
        Due.is("new: row(0, 0)", x.row(0, 0), 0);
        Due.is("new: back()", x.back(), EnoughGive.NO);
        Due.is("new: odds(0)", x.odds(0), 10);
        Due.is("new: two(0)", x.two(0), EnoughGive.NO);
    }

    private static void write() {
        EnoughGive x = new EnoughGive();
        for (int n : new int[] {0, 9, -1, Integer.MIN_VALUE, Integer.MAX_VALUE}) Due.is("write(" + n + ")", x.write(n, 0), EnoughGive.BAD);
        Due.is("write(1)", x.write(1, 0x6162_6364_6439L << 8 | 'd'), 1);
        Due.is("write(2)", x.write(2, '9' << 8 | ';'), 3);
        Due.is("write: fault()", x.fault(), EnoughGive.NONE);
        Due.is("write(8, -1)", x.write(8, -1L), 11);
        Due.is("write: fault() of bytes 255", x.fault(), 3);
        for (int k = 0; k < 36; k++) x.write(8, 0);
        Due.is("write: count(3)", x.count(3), 299);
        Due.is("write over the end", x.write(2, 0), EnoughGive.FULL);
        Due.is("write: bad ahead of full", x.write(9, 0), EnoughGive.BAD);
        Due.is("write: nothing changed", x.count(3), 299);
        Due.is("write to the end", x.write(1, 0), 300);
        Due.is("write behind the end", x.write(1, 0), EnoughGive.FULL);
    }

    private static void wipe() {
        EnoughGive x = Due.laid(THREE);
        Due.is("wipe()", x.wipe(), THREE.length());
        Due.is("wipe() again", x.wipe(), 0);
        Due.is("wipe: what is laid stays", x.count(5), 10);
        Due.put(x, "d3;");
        Due.is("wipe: fault() of the new text", x.fault(), EnoughGive.NONE);
        Due.is("wipe: length of the new text", x.count(3), 3);
    }

    private static void faultOfTerms() {
        String[] good = {"", "b1,0;", "b60,8;", "b001,000;", "d0;", "d30;", "c0;", "c199;", "p0;", "p9;", "e0,0;", "e9,30;",
            "o0;", "o1;", "s1,0;", "s60,99;", "d1;d2;d3;"};
        for (String text : good) Due.fault(text, EnoughGive.NONE);
        String[] bad = {"b0,0;", "b61,0;", "b1,9;", "b1;", "b1,2,3;", "b1,2", "b", "b;", "b,1;", "b1,;", "b0001,0;", "b 1,0;",
            "B1,0;", "b-1,0;", "b1,0:", "b1;0;", "d31;", "d300;", "c200;", "c1000;", "p10;", "e10,0;", "e0,31;", "e1;", "o2;", "s0,0;", "s61,0;",
            "s1,100;", "s1;", "x1;", ";", "1;", "\u00ff1;", "d\u00ff;", "d1"};
        for (String text : bad) {
            Due.fault(text, 0);
            Due.fault("d1;" + text, 3);
        }
        Due.fault("d1;d99;d98;", 3);
    }

    private static void faultOfSorts() {
        String[] good = {"g1,0,0,0,0;w0,0,10;", "g8,5,30,30,9;w0,30,10;", "g1,1,1,1,1;w0,1,1;w0,1,1;w0,1,8;t0,30;t0,0;",
            "g7,1,1,1,1;g1,1,1,1,1;w1,1,10;w0,1,10;"};
        for (String text : good) Due.fault(text, EnoughGive.NONE);
        String[] bad = {"g0,1,1,1,1;", "g9,1,1,1,1;", "g1,6,1,1,1;", "g1,1,31,1,1;", "g1,1,1,31,1;", "g1,1,1,1,10;",
            "g1,1,1,1;", "g1,1,1,1,1,1;", "w0,1,10;", "t0,1;"};
        for (String text : bad) Due.fault(text, 0);
        String sort = "g1,1,1,1,1;";
        String six = sort + sort + sort + sort + sort + sort;
        Due.fault(six, 66);
        Due.fault(six + sort, 66);
        Due.fault(six + "d99;", 66);
        Due.fault("g5,1,1,1,1;g4,1,1,1,1;", 11);
        for (String item : new String[] {"w1,1,10;", "w0,31,10;", "w0,1,0;", "w0,1,11;", "w0,1;", "t1,1;", "t0,31;", "t0;"}) {
            Due.fault(sort + item, 11);
        }
        Due.fault(sort + "w0,1,1;w0,1,1;w0,1,8;w0,1,1;", 11 + 7 * 3);
        Due.fault(sort + "w0,1,9;", 18);
        Due.fault(sort + "w0,1,6;w0,1,5;", 25);
        Due.fault(sort + sort + "w0,1,10;d3;", 33);
        Due.fault(sort + "d31;w0,1,9;", 11);
    }

    private static void lay() {
        EnoughGive x = Due.laid(HALVES);
        x.row(0, 5);
        x.show(2);
        x.keep();
        Due.put(x, "d");
        Due.is("lay() of a fault", x.lay(), EnoughGive.NO);
        Due.is("lay: nothing changed", x.row(0, 5), 5);
        Due.is("lay: nothing changed of what is shown", x.show(2), 2);
        Due.is("lay: nothing changed of what is kept", x.count(4), 1);
        x.wipe();
        Due.put(x, "d3;b5,0;");
        Due.is("lay() without a sort", x.lay(), EnoughGive.NO);
        Due.is("lay: the bar as it was", x.count(5), 10);
        Due.is("lay: the odds as they were", x.odds(0), 25);
        x.wipe();
        Due.put(x, HALVES);
        Due.is("lay()", x.lay(), 2);
        Due.is("lay: row", x.row(0, 0), 0);
        Due.is("lay: shown", x.show(0), 0);
        Due.is("lay: kept", x.count(4), 0);
        Due.is("lay: the text stays", x.count(3), HALVES.length());
        x.wipe();
        Due.put(x, "g1,0,5,0,0;w0,3,10;d30;d2;b7,8;b3,1;");
        Due.is("lay() of another", x.lay(), 1);
        Due.is("lay: the last bar counts", x.count(5), 3);
        Due.is("lay: the last day told last counts", x.count(6), 2);
        Due.is("lay: odds anew", x.odds(0), 10);
        laidAnew();
        Due.is("lay: fails anew", x.fails(), 3);
    }

    private static void laidAnew() {
        EnoughGive x = Due.laid("b5,2;c1;p9;e9,30;o1;s1,99;d1;g2,5,30,0,0;t0,30;w0,30,10;");
        x.odds(0);
        x.wipe();
        Due.put(x, "g2,3,30,0,1;w0,19,10;");
        x.lay();
        Due.is("laid anew: the bar", x.count(5), 20);
        Due.is("laid anew: the last day", x.count(6), 9);
        Due.is("laid anew: the first gives without an extra", x.evening(0, 0, 0), 19);
        Due.is("laid anew: the second gives what lacks", x.evening(0, 1, 0), 1);
        Due.is("laid anew: one is enough, nothing back by parts", x.evening(0, 1, 1), 18);
        Due.is("laid anew: no second wish", x.two(0), EnoughGive.NO);
        x.wipe();
        Due.put(x, "b21,0;g1,5,30,0,0;w0,19,10;");
        x.lay();
        Due.is("laid anew: nothing told", x.evening(0, 0, 0), 0);
        Due.is("laid anew: it costs 20", x.wrong(1), 0);
        Due.is("laid anew: no penny", x.fails(), 20);
    }

    private static void giver() {
        // A fair one on days 3, 12 and a sly one that would come on day 20; the last day is 10.
        EnoughGive x = Due.laid("d10;g1,4,5,20,0;w0,1,10;g2,1,5,3,9;w1,1,10;g1,2,5,10,0;w2,1,10;");
        int[][] want = {{0, 4, 10, 1}, {1, 1, 3, 0}, {1, 1, -4, -4}, {2, 2, 10, 2}};
        for (int i = 0; i < 4; i++) {
            for (int what = 0; what < 4; what++) Due.is("giver(" + i + ", " + what + ")", x.giver(i, what), want[i][what]);
        }
        Due.is("giver(4, 0)", x.giver(4, 0), EnoughGive.BAD);
        Due.is("giver(-1, 0)", x.giver(-1, 0), EnoughGive.BAD);
        Due.is("giver(0, 4)", x.giver(0, 4), EnoughGive.BAD);
        Due.is("giver(0, -1)", x.giver(0, -1), EnoughGive.BAD);
        Due.is("giver(2, 4)", x.giver(2, 4), EnoughGive.BAD);
    }

    private static void show() {
        EnoughGive x = Due.laid(HALVES);
        Due.is("show(2)", x.show(2), 0);
        Due.is("show(3)", x.show(3), EnoughGive.BAD);
        Due.is("show(-1)", x.show(-1), EnoughGive.BAD);
        Due.is("show(1)", x.show(1), 2);
        // Of nothing shown the second lacks 10 as well, and gives all that it is worth.
        Due.is("show: mean of the second", x.mean(1, 0), 500);
        x.show(0);
        // The first gives 5 of 10 or nothing; the second lacks 5 or 10.
        Due.is("show: mean of the second, all shown", x.mean(1, 0), 25 * 5 + 25 * 10);
        // 19 is shown as 10 in tens: the second lacks 15, not 6.
        EnoughGive tens = Due.laid("b25,0;g1,5,30,0,0;t0,19;w0,0,10;g1,1,30,1,0;w1,30,10;");
        Due.is("show: just so", tens.whole(0, 0), 25);
        tens.show(2);
        Due.is("show: in tens", tens.whole(0, 0), 34);
        tens.show(1);
        Due.is("show: nothing", tens.whole(0, 0), 44);
    }

    private static void odds() {
        EnoughGive x = Due.laid(HALVES);
        Due.is("odds(0)", x.odds(0), 25);
        Due.is("odds(1)", x.odds(1), 1);
        Due.is("odds(2)", x.odds(2), 4);
        Due.is("odds(3)", x.odds(3), EnoughGive.BAD);
        Due.is("odds(-1)", x.odds(-1), EnoughGive.BAD);
        EnoughGive none = Due.laid("d0;g1,1,9,5,0;w0,9,10;");
        Due.is("odds(0) of none", none.odds(0), 0);
        Due.is("odds(1) of none", none.odds(1), 0);
        Due.is("odds(2) of none", none.odds(2), 1);
        // By more than half of the givers it is built as well as by all; needed are three.
        EnoughGive who = Due.laid("b1,3;g3,2,9,0,0;w0,1,7;w0,0,3;");
        Due.is("odds by givers", who.odds(0), 343);
        EnoughGive eight = Due.laid("b1,0;g8,2,9,0,0;w0,1,1;w0,2,1;w0,0,8;");
        Due.is("odds of eight", eight.odds(0), 100_000_000 - 16_777_216);
        Due.is("odds of eight, above", eight.odds(1), 390625 - 65536);
        Due.is("odds of eight, below", eight.odds(2), 390625);
    }

    private static void mean() {
        EnoughGive x = Due.laid(HALVES);
        Due.is("mean(0, 0)", x.mean(0, 0), 5 * 50);
        // Both are worth 10: 10 - 5 each. The first alone: has his own back and 3. The second alone: the same.
        Due.is("mean(0, 1)", x.mean(0, 1), 25 * 5 + 25 * 3);
        Due.is("mean(1, 1)", x.mean(1, 1), 25 * 5 + 25 * 3);
        Due.is("mean(2, 0)", x.mean(2, 0), Long.MIN_VALUE);
        Due.is("mean(-1, 0)", x.mean(-1, 0), Long.MIN_VALUE);
        Due.is("mean(0, 2)", x.mean(0, 2), Long.MIN_VALUE);
        Due.is("mean(0, -1)", x.mean(0, -1), Long.MIN_VALUE);
        EnoughGive late = Due.laid("d3;g2,1,9,0,4;w0,9,10;");
        Due.is("mean of one that does not come", late.mean(1, 0), EnoughGive.NONE);
        Due.is("mean of one that does not come, BAD first", late.mean(1, 2), Long.MIN_VALUE);
        // A told one gives more than it is worth: it has less than nothing.
        EnoughGive told = Due.laid("b5,0;g1,5,30,0,0;t0,20;w0,4,10;");
        Due.is("mean below 0", told.mean(0, 1), -160);
        // Of 20 given, 15 are over the bar: all of his gift's part, and the extra of day 0.
        EnoughGive parts = Due.laid("b5,0;o1;e7,0;g1,5,30,0,0;t0,20;w0,4,10;");
        Due.is("mean with parts back and extra", parts.mean(0, 1), (4 - 20 + 7 + 15) * 10);
        EnoughGive two = Due.laid("b9,0;o1;e7,0;g2,5,30,0,1;t0,8;w0,8,10;");
        // 7 of 16 are over: 8 times 7 by 16 is 3, cut; the second comes behind the day of the extra.
        Due.is("mean by the extra's day", two.mean(0, 1), (8 - 8 + 7 + 3) * 100);
        Due.is("mean behind the extra's day", two.mean(1, 1), (8 - 8 + 3) * 100);
        EnoughGive kept = Due.laid("b9,0;o1;o0;g2,5,30,0,1;t0,8;w0,8,10;");
        Due.is("mean without parts", kept.mean(0, 1), 0);
        EnoughGive idle = Due.laid("b5,0;p9;e9,9;g1,0,30,0,0;w0,9,10;g1,5,30,1,0;t1,5;w1,9,10;");
        Due.is("mean of who gave nothing", idle.mean(0, 1), 900);
    }

    private static void wrong() {
        EnoughGive x = Due.laid(HALVES);
        Due.is("wrong(0)", x.wrong(0), 0);
        Due.is("wrong(1)", x.wrong(1), 0);
        Due.is("wrong(2)", x.wrong(2), EnoughGive.BAD);
        Due.is("wrong(-1)", x.wrong(-1), EnoughGive.BAD);
        EnoughGive dear = Due.laid("b10,2;c21;g2,1,30,0,1;w0,10,5;w0,0,5;");
        Due.is("wrong(0): it costs more", dear.wrong(0), 25);
        Due.is("wrong(0): worth as much as it costs", Due.laid("b10,2;c20;g2,1,30,0,1;w0,10,5;w0,0,5;").wrong(0), 0);
        EnoughGive cheap = Due.laid("b10,2;c10;g2,1,30,0,1;w0,10,5;w0,0,5;");
        Due.is("wrong(1): one is worth enough", cheap.wrong(1), 50);
        EnoughGive none = Due.laid("d0;c0;g1,1,9,5,0;w0,9,10;");
        Due.is("wrong(1) of none that come at no cost", none.wrong(1), 1);
        EnoughGive absent = Due.laid("d0;c9;g1,1,9,5,0;w0,9,10;");
        Due.is("wrong(1): who does not come is worth nothing", absent.wrong(1), 0);
    }

    private static void row() {
        EnoughGive x = Due.laid("d3;g2,1,9,0,4;w0,9,10;");
        Due.is("row(0, 30)", x.row(0, 30), 0);
        Due.is("row(0, 31)", x.row(0, 31), EnoughGive.BAD);
        Due.is("row(0, -1)", x.row(0, -1), EnoughGive.BAD);
        Due.is("row(2, 0)", x.row(2, 0), EnoughGive.BAD);
        Due.is("row(-1, 0)", x.row(-1, 0), EnoughGive.BAD);
        Due.is("row(0, 0)", x.row(0, 0), 30);
        Due.is("row(1, 7) of one that does not come", x.row(1, 7), 0);
        Due.is("row(1, 0)", x.row(1, 0), 7);
    }

    private static void judge() {
        // The second sort comes ahead of the first: the bar of 12 is 4 for each of three, told 5: then 7 by two.
        EnoughGive x = Due.laid("b12,0;g2,1,30,4,0;w0,1,5;w0,9,5;g1,1,30,0,0;w1,20,10;");
        Due.is("judge() of nothing told", x.judge(), 2);
        x.row(2, 5);
        Due.is("judge(): the first is not as told ones ahead made it", x.judge(), 2);
        x.row(2, 4);
        Due.is("judge(): the second in order", x.judge(), 0);
        x.row(0, 4);
        x.row(1, 4);
        Due.is("judge(): as each would have given", x.judge(), EnoughGive.NONE);
        x.row(0, 3);
        x.row(1, 5);
        Due.is("judge(): the first of two", x.judge(), 0);
        x.show(1);
        Due.is("judge(): nothing shown", x.judge(), 0);
        EnoughGive none = Due.laid("d0;g1,1,9,5,0;w0,9,10;");
        none.row(0, 3);
        Due.is("judge() of none that come", none.judge(), EnoughGive.NONE);
        Due.is("made(0) of none that come", none.made(0), 0);
    }

    private static void made() {
        EnoughGive x = Due.laid("b12,2;g2,1,30,4,0;w0,1,5;w0,9,5;g1,1,30,0,0;w1,20,10;");
        Due.is("made(0)", x.made(0), 0);
        x.row(0, 30);
        Due.is("made(0) of one", x.made(0), 30);
        Due.is("made(1): too few give", x.made(1), 0);
        x.row(1, 1);
        Due.is("made(1): two give", x.made(1), 1);
        x.row(0, 10);
        Due.is("made(1): too little", x.made(1), 0);
        x.row(0, 11);
        Due.is("made(1): just enough", x.made(1), 1);
        Due.is("made(0) of both", x.made(0), 12);
        Due.is("made(2)", x.made(2), EnoughGive.BAD);
        Due.is("made(-1)", x.made(-1), EnoughGive.BAD);
    }

    private static void just() {
        EnoughGive x = Due.laid("b10,2;d5;g2,0,6,0,0;w0,9,1;w0,2,9;g1,3,30,5,0;w1,4,10;g1,4,3,5,0;w2,1,10;");
        // Of 6, 6, 4 and 1 at most, 10 together, two or more give.
        int ways = 0;
        for (int g = 0; g < 7 * 7 * 5 * 2; g++) {
            int[] gifts = {g / 70, g / 10 % 7, g / 2 % 5, g % 2};
            if (gifts[0] + gifts[1] + gifts[2] + gifts[3] == 10) ways++;
        }
        Due.is("just(-1)", x.just(-1), ways);
        int[] first = {0, 5, 4, 1};
        for (int i = 0; i < 4; i++) Due.is("just(" + i + ")", x.just(i), first[i]);
        Due.is("just(4)", x.just(4), EnoughGive.BAD);
        Due.is("just(-2)", x.just(-2), EnoughGive.BAD);
        // The later number comes ahead, but the lower gift is the lower number's.
        EnoughGive order = Due.laid("b5,0;g1,1,9,6,0;w0,9,10;g1,1,9,0,0;w1,9,10;");
        Due.is("just(0) by numbers", order.just(0), 0);
        Due.is("just(1) by numbers", order.just(1), 5);
        EnoughGive few = Due.laid("b5,2;g1,1,9,6,0;w0,9,10;g1,1,9,0,0;w1,9,10;");
        Due.is("just(0) by two givers", few.just(0), 1);
        Due.is("just(-1) by two givers", few.just(-1), 4);
        EnoughGive poor = Due.laid("b5,2;g2,1,9,0,0;w0,9,10;g1,1,0,0,0;w1,9,10;");
        Due.is("just(0): the third can't give", poor.just(0), 1);
        Due.is("just(1): the third can't give", poor.just(1), 4);
        EnoughGive three = Due.laid("b5,3;g1,1,1,0,0;w0,9,10;g2,1,9,0,0;w1,9,10;");
        int[] ones = {1, 1, 3};
        for (int i = 0; i < 3; i++) Due.is("just(" + i + ") of three", three.just(i), ones[i]);
        EnoughGive none = Due.laid("b5,3;d5;g2,1,9,0,0;w0,9,10;g1,1,9,6,0;w1,9,10;");
        Due.is("just(-1) of none", none.just(-1), 0);
        Due.is("just(0) of none", none.just(0), EnoughGive.NONE);
        Due.is("just(2) of one that does not come", none.just(2), EnoughGive.BAD);
        EnoughGive most = Due.laid("b60,0;g8,1,30,0,0;w0,30,10;");
        long[] table = new long[61];
        table[0] = 1;
        for (int k = 0; k < 8; k++) {
            long[] next = new long[61];
            for (int s = 0; s < 61; s++) for (int g = 0; g <= Math.min(30, s); g++) next[s] += table[s - g];
            table = next;
        }
        Due.is("just(-1) of the most", most.just(-1), table[60]);
        Due.is("just(5) of the most", most.just(5), 0);
        Due.is("just(6) of the most", most.just(6), 30);
    }

    private static void fails() {
        Due.is("fails(): a giver to whom it is worth just the bar", new EnoughGive().fails(), 20);
        Due.is("fails(): it is worth more", Due.laid("g1,1,30,0,0;w0,21,10;").fails(), 0);
        Due.is("fails(): out of reach", Due.laid("g1,1,30,0,0;w0,19,10;").fails(), 20);
        // With a penny the 0 is no more at rest; above it all are.
        Due.is("fails(): with a penny", Due.laid("p1;g1,1,30,0,0;w0,19,10;").fails(), 19);
        Due.is("fails(): a penny makes up for what is over", Due.laid("p1;g1,1,30,0,0;w0,21,10;").fails(), 19);
        Due.is("fails(): none may give", Due.laid("p9;g2,1,0,0,0;w0,19,10;").fails(), 1);
        Due.is("fails(): none comes", Due.laid("d0;g2,1,9,3,0;w0,19,10;").fails(), 1);
        // Two are needed: he alone can't, so 0 and 0 rests; if one gives the other would.
        Due.is("fails(): two are needed", Due.laid("b2,2;g2,1,5,0,0;w0,5,10;").fails(), 1);
        Due.is("fails(): one is needed", Due.laid("b2,1;g2,1,5,0,0;w0,5,10;").fails(), 0);
        Due.is("fails(): the greatest worth counts", Due.laid("b2,1;g2,1,5,0,0;w0,1,9;w0,5,1;").fails(), 0);
    }

    private static void bestBar() {
        // Built by a bar of 1 to 10 if one is worth 10: wrong where it costs more; by 11 to 20 if both are.
        EnoughGive x = Due.laid("b1,0;c20;g2,1,30,0,1;w0,10,5;w0,0,5;");
        Due.is("bestBar(0)", x.bestBar(0), 11);
        Due.is("bestBar(1)", x.bestBar(1), 0);
        Due.is("bestBar: wrong as told", x.wrong(0), 50);
        Due.is("bestBar: the bar stays", x.count(5), 1);
        Due.is("bestBar(2)", x.bestBar(2), EnoughGive.BAD);
        Due.is("bestBar(-1)", x.bestBar(-1), EnoughGive.BAD);
        EnoughGive never = Due.laid("c0;d0;g1,1,9,3,0;w0,9,10;");
        Due.is("bestBar(0) of none that come", never.bestBar(0), 1);
        Due.is("bestBar(1) of none that come", never.bestBar(1), 1);
        EnoughGive high = Due.laid("b1,0;c199;g2,4,30,0,0;w0,30,10;");
        Due.is("bestBar(0): never to be built", high.bestBar(0), 31);
        Due.is("bestBar(0): the highest", Due.laid("b1,0;c199;g3,2,30,0,0;w0,30,10;g1,2,30,0,0;w1,28,10;").bestBar(0), 60);
        EnoughGive both = Due.laid("b1,0;c199;g2,1,30,0,0;w0,30,10;");
        Due.is("bestBar(0): each bar is wrong", both.bestBar(0), 1);
        Due.is("bestBar(1): each bar is wrong", both.bestBar(1), 100);
        // A sly one behind a told one of 10 makes up a bar of 30; if nothing is shown he gives for a bar of 20 alone.
        EnoughGive shown = Due.laid("b1,0;c199;g1,5,30,0,0;t0,10;w0,0,10;g1,4,30,0,0;w1,20,10;");
        Due.is("bestBar(0): just so shown", shown.bestBar(0), 31);
        shown.show(1);
        Due.is("bestBar(0): nothing shown", shown.bestBar(0), 21);
    }

    private static void bestDay() {
        // The free one gives only when he is the last: on day 4 he is; from day 6 on another one comes behind.
        EnoughGive x = Due.laid("b9,0;d30;g1,0,30,4,0;w0,9,10;g1,0,30,6,0;w1,3,10;");
        Due.is("bestDay()", x.bestDay(), 4);
        Due.is("bestDay: odds as told", x.odds(0), 0);
        Due.is("bestDay: never built", Due.laid("b60,0;g1,0,30,4,0;w0,9,10;").bestDay(), 0);
        Due.is("bestDay: the last of all", Due.laid("b9,0;d3;g1,0,30,30,0;w0,9,10;").bestDay(), 30);
        // The sly one comes on the last day: ahead of the other of that day, and behind him a day later.
        EnoughGive sly = Due.laid("b9,0;g1,4,30,0,0;w0,5,10;g1,5,30,6,0;t1,4;w1,3,10;");
        Due.is("bestDay: the sly one behind", sly.bestDay(), 7);
        // One of one by five tenths is better than more ways of three by less.
        EnoughGive odds = Due.laid("b9,0;g1,0,30,4,0;w0,9,5;w0,0,5;g2,0,30,6,0;w1,9,4;w1,0,6;");
        Due.is("bestDay: odds, not ways", odds.bestDay(), 4);
        EnoughGive same = Due.laid("b9,0;g1,0,30,4,0;w0,9,4;w0,0,6;g1,0,30,6,0;w1,9,4;w1,0,6;");
        Due.is("bestDay: the first of the same odds", same.bestDay(), 4);
    }

    private static void extra() {
        // An early one gives 6 and the extra: the bar of 10 lacks 4.
        EnoughGive x = Due.laid("b10,0;e0,3;g1,3,30,3,0;w0,6,5;w0,0,5;");
        Due.is("extra(0)", x.extra(0), 0);
        Due.is("extra(1)", x.extra(1), 4);
        Due.is("extra(5)", x.extra(5), 4);
        Due.is("extra(6)", x.extra(6), EnoughGive.NONE);
        Due.is("extra(11)", x.extra(11), EnoughGive.BAD);
        Due.is("extra(-1)", x.extra(-1), EnoughGive.BAD);
        Due.is("extra: odds as told", x.odds(0), 0);
        EnoughGive late = Due.laid("b10,0;e9,2;g1,3,30,3,0;w0,6,5;w0,0,5;");
        Due.is("extra(1) behind its day", late.extra(1), EnoughGive.NONE);
        EnoughGive most = Due.laid("b15,0;e9,3;g1,3,30,3,0;w0,6,10;");
        Due.is("extra(10)", most.extra(10), 9);
        EnoughGive poor = Due.laid("b10,0;e9,3;g1,3,9,3,0;w0,6,10;");
        Due.is("extra(10) over the purse", poor.extra(10), EnoughGive.NONE);
    }

    private static void bestShow() {
        Due.is("bestShow(): the same", new EnoughGive().bestShow(), 0);
        EnoughGive x = Due.laid("b12,0;g1,1,30,0,0;w0,4,10;g1,4,30,1,0;w1,7,10;");
        Due.is("bestShow(): never built", x.bestShow(), 0);
        // What lacks is 5 just so, and the fair one gives it; nothing shown he gives no less.
        EnoughGive so = Due.laid("b20,0;g1,5,30,0,0;t0,15;w0,0,10;g1,1,30,1,0;w1,5,10;");
        Due.is("bestShow(): just so", so.bestShow(), 0);
        // The first gives 2 at most; the second 4, half of the 8 that lack just so, and 5, half of all, if nothing is shown.
        EnoughGive none = Due.laid("b10,0;g1,1,2,0,0;w0,2,10;g1,1,30,1,0;w1,9,10;g1,1,3,2,0;w2,3,10;");
        Due.is("bestShow(): what is given just so", none.whole(0, 0), 9);
        Due.is("bestShow(): nothing", none.bestShow(), 1);
        // Two must give: just so nothing lacks, and the sly one gives nothing; in tens 5 lack; of 15 he gives nothing.
        EnoughGive tens = Due.laid("b15,2;g1,5,30,0,0;t0,15;w0,0,10;g1,4,30,1,0;w1,9,10;");
        Due.is("bestShow(): in tens", tens.bestShow(), 2);
        tens.show(1);
        Due.is("bestShow(): whatever is shown", tens.bestShow(), 2);
        Due.is("bestShow: what is shown stays", tens.show(0), 1);
    }

    private static void rich() {
        // The told one gives 6 on day 2, the sly one what lacks to 20, if it is 7 or less, on day 5.
        EnoughGive x = Due.laid("b20,2;d5;g1,5,30,2,0;t0,6;w0,0,10;g1,4,30,0,0;w1,7,5;w1,0,5;");
        Due.is("rich(99, 2)", x.rich(99, 2), 0);
        Due.is("rich(0, 2)", x.rich(0, 2), 0);
        EnoughGive near = Due.laid("b19,2;d5;g1,5,30,2,0;t0,6;w0,0,10;g1,4,30,0,0;w1,7,5;w1,0,5;");
        Due.is("rich(99, 2): as much as is given", near.rich(99, 2), 50);
        Due.is("rich(6, 4)", near.rich(6, 4), 50);
        Due.is("rich(5, 2): R at most", near.rich(5, 2), 0);
        Due.is("rich(99, 1): ahead of all", near.rich(99, 1), 0);
        Due.is("rich(99, 5): behind all", near.rich(99, 5), 0);
        Due.is("rich(99, 6): behind the last day", near.rich(99, 6), EnoughGive.BAD);
        Due.is("rich(99, -1)", near.rich(99, -1), EnoughGive.BAD);
        Due.is("rich(100, 0)", near.rich(100, 0), EnoughGive.BAD);
        Due.is("rich(-1, 0)", near.rich(-1, 0), EnoughGive.BAD);
        Due.is("rich: odds as they were", near.odds(0), 0);
        EnoughGive alone = Due.laid("b20,0;d5;g1,5,30,2,0;t0,10;w0,0,10;");
        Due.is("rich(10, 5): doubled", alone.rich(10, 5), 10);
        Due.is("rich(9, 5): not doubled", alone.rich(9, 5), 0);
        EnoughGive two = Due.laid("b20,2;d5;g1,5,30,2,0;t0,10;w0,0,10;");
        Due.is("rich(10, 5): he is no giver", two.rich(10, 5), 0);
    }

    private static void richDay() {
        EnoughGive near = Due.laid("b19,2;d5;g1,5,30,2,0;t0,6;w0,0,10;g1,4,30,0,0;w1,7,5;w1,0,5;");
        Due.is("richDay(99)", near.richDay(99), 2);
        Due.is("richDay(5): never built", near.richDay(5), 0);
        Due.is("richDay(100)", near.richDay(100), EnoughGive.BAD);
        Due.is("richDay(-1)", near.richDay(-1), EnoughGive.BAD);
        Due.is("richDay(0)", near.richDay(0), 0);
        Due.is("rich(0, 0)", near.rich(0, 0), 0);
        EnoughGive last = Due.laid("b20,2;d7;g2,5,30,2,5;t0,5;w0,0,10;");
        Due.is("richDay(10): the last day", last.richDay(10), 7);
    }

    private static void two() {
        Due.is("two(0) without one", Due.laid(HALVES).two(0), EnoughGive.NO);
        Due.is("two(3): BAD ahead of NO", Due.laid(HALVES).two(3), EnoughGive.BAD);
        // Of a purse of 7 the first gift takes 5; 10 by half is 5 for the second, of which 2 are left.
        EnoughGive x = Due.laid("b10,2;s4,50;g2,1,7,0,1;w0,10,5;w0,0,5;");
        Due.is("two(0)", x.two(0), 25);
        Due.is("two(1)", x.two(1), 25);
        Due.is("two(2)", x.two(2), 25);
        Due.is("two(3)", x.two(3), EnoughGive.BAD);
        Due.is("two(-1)", x.two(-1), EnoughGive.BAD);
        Due.is("two(1) of a bar over the purses", Due.laid("b10,2;s5,50;g2,1,7,0,1;w0,10,5;w0,0,5;").two(1), 0);
        Due.is("two(1) of little worth", Due.laid("b10,2;s4,19;g2,1,7,0,1;w0,10,5;w0,0,5;").two(1), 0);
        // The first gives 10 of a worth of 1.98: cut, 1.
        Due.is("two(1) cut", Due.laid("b60,0;s2,99;g1,2,9,0,0;w0,2,10;").two(1), 0);
        Due.is("two(1) by hundredths", Due.laid("b60,0;s1,5;g1,1,30,0,0;w0,20,10;").two(1), 10);
        EnoughGive one = Due.laid("b60,8;s1,99;g1,2,9,0,0;w0,2,10;");
        Due.is("two(1) of no need of givers", one.two(1), 10);
        Due.is("two(2): the first is not built", one.two(2), 0);
        // A told one gives 3 of 9 to the first; to the second, as a fair one, what it lacks.
        EnoughGive told = Due.laid("b60,0;s6,99;g1,5,9,0,0;t0,3;w0,9,10;");
        Due.is("two(1) of a told one", told.two(1), 10);
        EnoughGive early = Due.laid("b60,0;s3,40;e9,9;g1,3,30,0,0;w0,9,10;");
        Due.is("two(1) of an early one without the extra", early.two(1), 10);
        EnoughGive less = Due.laid("b60,0;s4,40;e9,9;g1,3,30,0,0;w0,9,10;");
        Due.is("two(1) of an early one, worth 3", less.two(1), 0);
        Due.is("two: the last wish counts", Due.laid("b60,0;s60,0;s2,99;g1,2,9,0,0;w0,6,10;").two(1), 10);
        Due.is("two(0) is the first", Due.laid("b3,0;s60,0;g1,2,9,0,0;w0,6,10;").two(0), 10);
    }

    private static void evening() {
        EnoughGive x = Due.laid("b60,0;p4;d9;g2,2,30,0,9;w0,2,3;w0,12,3;w0,30,4;g1,2,30,10,0;w1,2,10;");
        for (int z : new int[] {0, 1, 77, 9999}) {
            for (int i = 0; i < 2; i++) {
                long v = 7919L * z + 6151L * i + 1;
                int draw = (int) (v * v % 65521 % 10);
                Due.is("evening(" + z + ", " + i + ", 0)", x.evening(z, i, 0), draw < 3 ? 1 : draw < 6 ? 6 : 15);
                Due.is("evening(" + z + ", " + i + ", 1)", x.evening(z, i, 1), 4);
            }
        }
        Due.is("evening of one that does not come", x.evening(0, 2, 0), -1004);
        Due.is("evening of one that does not come, BAD first", x.evening(0, 2, 2), -1001);
        Due.is("evening(10000)", x.evening(10000, 0, 0), -1001);
        Due.is("evening(-1)", x.evening(-1, 0, 0), -1001);
        Due.is("evening of no giver", x.evening(0, 3, 0), -1001);
        Due.is("evening of giver -1", x.evening(0, -1, 0), -1001);
        Due.is("evening what -1", x.evening(0, 0, -1), -1001);
        EnoughGive told = Due.laid("b5,0;g1,5,30,0,0;t0,20;w0,16,10;");
        Due.is("evening: has below 0", told.evening(9, 0, 1), -4);
    }

    private static void whole() {
        EnoughGive x = Due.laid("b16,2;g2,2,30,0,0;w0,2,3;w0,12,3;w0,30,4;");
        for (int z : new int[] {0, 1, 2, 3, 4, 5, 500, 9999}) {
            int sum = x.evening(z, 0, 0) + x.evening(z, 1, 0);
            Due.is("whole(" + z + ", 0)", x.whole(z, 0), sum);
            Due.is("whole(" + z + ", 1)", x.whole(z, 1), sum >= 16 ? 1 : 0);
        }
        Due.is("whole(10000, 0)", x.whole(10000, 0), EnoughGive.BAD);
        Due.is("whole(-1, 0)", x.whole(-1, 0), EnoughGive.BAD);
        Due.is("whole(0, 2)", x.whole(0, 2), EnoughGive.BAD);
        Due.is("whole(0, -1)", x.whole(0, -1), EnoughGive.BAD);
        EnoughGive none = Due.laid("d0;g1,1,9,3,0;w0,9,10;");
        Due.is("whole(5, 0) of none that come", none.whole(5, 0), 0);
        Due.is("whole(5, 1) of none that come", none.whole(5, 1), 0);
    }

    private static void keepAndBack() {
        EnoughGive x = Due.laid("b25,0;g1,5,30,0,0;t0,19;w0,0,10;g1,1,30,1,0;w1,30,10;");
        Due.is("back() of nothing", x.back(), EnoughGive.NO);
        x.row(0, 3);
        x.show(1);
        Due.is("keep()", x.keep(), 1);
        x.row(0, 4);
        x.row(1, 9);
        x.show(2);
        Due.is("keep() again", x.keep(), 2);
        Due.is("keep() a third", x.keep(), EnoughGive.FULL);
        x.row(0, 5);
        x.show(0);
        Due.is("back: mean as shown now", x.mean(1, 0), 600);
        Due.is("back()", x.back(), 1);
        Due.is("back: mean as shown then", x.mean(1, 0), 1500);
        Due.is("back: row(0)", x.row(0, 8), 4);
        Due.is("back: row(1)", x.row(1, 8), 9);
        Due.is("back: shown", x.show(0), 2);
        Due.is("back() again", x.back(), 0);
        Due.is("back: row(0) of the first", x.row(0, 8), 3);
        Due.is("back: row(1) of the first", x.row(1, 8), 0);
        Due.is("back: shown of the first", x.show(0), 1);
        Due.is("back() a third", x.back(), EnoughGive.NO);
        Due.is("back: nothing changed", x.row(0, 0), 8);
    }

    private static void count() {
        EnoughGive x = Due.laid("d5;b33,0;g3,1,9,0,3;w0,1,10;g1,4,9,30,0;w1,1,10;");
        x.keep();
        int[] counts = {4, 3, 2, 48, 1, 33, 5};
        for (int what = 0; what < 7; what++) Due.is("count(" + what + ")", x.count(what), counts[what]);
        Due.is("count(7)", x.count(7), EnoughGive.BAD);
        Due.is("count(-1)", x.count(-1), EnoughGive.BAD);
    }

    private static void kinds() {
        Due.gives("b9,0;g1,0,30,0,0;w0,9,10;", 0, 9);
        Due.gives("b9,0;g1,0,30,0,0;w0,8,10;", 0, 0);
        Due.gives("b9,0;g1,0,8,0,0;w0,9,10;", 0, 0);
        Due.gives("b9,0;g2,0,30,0,0;w0,9,10;", 0, 0);
        Due.gives("b9,0;g2,0,30,0,0;w0,9,10;", 1, 9);
        Due.gives("b9,0;g2,1,30,0,0;w0,9,10;", 0, 5);
        Due.gives("b9,0;g2,1,30,0,0;w0,9,10;", 1, 4);
        Due.gives("b9,0;g2,1,3,0,0;w0,9,10;", 0, 3);
        Due.gives("b1,0;g1,2,30,0,0;w0,9,10;", 0, 5);
        Due.gives("b1,0;g1,2,8,0,0;w0,9,10;", 0, 4);
        Due.gives("b30,0;e3,0;g1,3,30,0,0;w0,9,10;", 0, 12);
        Due.gives("b30,0;e3,0;g1,3,11,0,0;w0,9,10;", 0, 11);
        Due.gives("b10,0;e3,0;g1,3,30,0,0;w0,9,10;", 0, 10);
        Due.gives("b30,0;e3,0;g1,3,30,1,0;w0,9,10;", 0, 9);
        Due.gives("b9,0;e3,0;g2,3,30,1,0;w0,9,10;", 0, 5);
        Due.gives("b9,0;g2,3,30,0,0;w0,9,10;", 0, 9);
        Due.gives("b9,0;g2,4,30,0,0;w0,9,10;", 0, 9);
        Due.gives("b9,0;g2,4,30,0,0;w0,9,10;", 1, 0);
        Due.gives("b10,0;g2,4,30,0,0;w0,9,10;", 0, 0);
        Due.gives("b9,0;g1,5,30,0,0;t0,20;w0,9,10;", 0, 20);
        Due.gives("b9,0;g1,5,19,0,0;t0,20;w0,9,10;", 0, 19);
        Due.gives("b9,0;g1,5,19,0,0;t0,20;t0,7;w0,9,10;", 0, 7);
        Due.gives("b9,0;g1,5,19,0,0;w0,9,10;", 0, 0);
    }
}
