/** The bounds that the document's first part names: of a TEXT, its ITEMS and their numbers, and what holds without them. */
public final class TextEdgesTest {
    private static final String LETTERS = "bdcpeogwts";
    // Each ITEM with numbers that are good, and the bounds of each of its numbers (a SORT told ahead is 0 alone).
    private static final String[] GOOD = {"b2,2;", "d2;", "c2;", "p2;", "e2,2;", "o1;", "g2,2,2,2,2;", "w0,2,2;", "t0,2;", "s2,2;"};
    private static final int[][] BOUNDS = {{1, 60, 0, 8}, {0, 30}, {0, 199}, {0, 9}, {0, 9, 0, 30}, {0, 1},
        {1, 8, 0, 5, 0, 30, 0, 30, 0, 9}, {0, 0, 0, 30, 1, 10}, {0, 0, 0, 30}, {1, 60, 0, 99}};
    private static final String SORT = "g1,1,1,1,1;";

    public static void main(String[] args) {
        emptyText();
        fullText();
        textFilledUp();
        bytesOfOneWrite();
        boundsOfNumbers();
        figures();
        howManyNumbers();
        letters();
        signsBetween();
        endOfText();
        firstFault();
        bar();
        lastDay();
        cost();
        penny();
        extra();
        parts();
        sorts();
        sixSorts();
        eightGivers();
        worths();
        tenthsTogether();
        toldOnes();
        toldAhead();
        secondWish();
        laid();
        Due.end("edges of a text");
    }

    // ---- helps

    /** What must stand ahead of an item, so that its sort is told. */
    private static String ahead(char letter) {
        return letter == 'w' || letter == 't' ? SORT : "";
    }

    /** What must stand behind an item, so that there is a sort and each has ten tenths. */
    private static String behind(String item) {
        String[] numbers = item.substring(1, item.length() - 1).split(",");
        switch (item.charAt(0)) {
            case 'g': case 't': return "w0,1,10;";
            case 'w':
                int left = 10 - Integer.parseInt(numbers[2]);
                return left > 0 ? "w0,1," + left + ";" : "";
            default: return SORT + "w0,1,10;";
        }
    }

    private static void good(String item) {
        String text = ahead(item.charAt(0)) + item + behind(item);
        EnoughGive x = Due.written(text);
        Due.is("fault() of " + text, x.fault(), EnoughGive.NONE);
        Due.is("lay() of " + text, x.lay(), item.startsWith("g") ? Integer.parseInt(item.substring(1, 2)) : 1);
    }

    private static void bad(String item) {
        String ahead = item.isEmpty() ? "" : ahead(item.charAt(0));
        for (String more : new String[] {"", "d3;", "d3;d4;"}) {
            for (String behind : new String[] {"", "d1;"}) {
                String text = more + ahead + item + behind;
                EnoughGive x = Due.written(text);
                Due.is("fault() of " + text, x.fault(), more.length() + ahead.length());
                Due.is("lay() of " + text, x.lay(), EnoughGive.NO);
                Due.is("lay() of " + text + ": the last day as it was", x.count(6), 9);
            }
        }
    }

    /** The item with its k-th number written otherwise. */
    private static String with(String item, int k, String number) {
        String[] numbers = item.substring(1, item.length() - 1).split(",");
        numbers[k] = number;
        return item.charAt(0) + String.join(",", numbers) + ";";
    }

    /** So many bytes: items of three and of four bytes that tell nothing new. */
    private static String filler(int length) {
        StringBuilder s = new StringBuilder();
        while ((length - s.length()) % 3 != 0) s.append("d05;");
        while (s.length() < length) s.append("d5;");
        return s.toString();
    }

    // ---- THE TEXT's bytes

    /** The empty one: no fault, and no sort. */
    private static void emptyText() {
        EnoughGive x = new EnoughGive();
        Due.is("empty: count(3)", x.count(3), 0);
        Due.is("empty: fault()", x.fault(), EnoughGive.NONE);
        Due.is("empty: lay()", x.lay(), EnoughGive.NO);
        Due.is("empty: wipe()", x.wipe(), 0);
        Due.put(x, "g1,1,9,0,0;w0,9,10;");
        Due.is("emptied: lay() ahead", x.lay(), 1);
        Due.is("emptied: wipe()", x.wipe(), 19);
        Due.is("emptied: fault()", x.fault(), EnoughGive.NONE);
        Due.is("emptied: lay()", x.lay(), EnoughGive.NO);
        Due.is("emptied: what was laid stays", x.giver(0, 1), 1);
        Due.is("emptied: count(3)", x.count(3), 0);
    }

    /** The full one, of 300 bytes, is a text as any other. */
    private static void fullText() {
        String sort = "b7,0;g1,5,9,0,0;t0,7;w0,9,10;";
        EnoughGive x = Due.laid(filler(300 - sort.length()) + sort);
        Due.is("full: count(3)", x.count(3), 300);
        Due.is("full: fault()", x.fault(), EnoughGive.NONE);
        Due.is("full: count(6)", x.count(6), 5);
        Due.is("full: whole(0, 0)", x.whole(0, 0), 7);
        Due.is("full: write(1)", x.write(1, 'd'), EnoughGive.FULL);
        Due.is("full: write(8)", x.write(8, 'd'), EnoughGive.FULL);
        Due.is("full: write(0)", x.write(0, 'd'), EnoughGive.BAD);
        Due.is("full: write(9)", x.write(9, 'd'), EnoughGive.BAD);
        Due.is("full: fault() behind all that", x.fault(), EnoughGive.NONE);
        Due.is("full: wipe()", x.wipe(), 300);
        Due.is("full: wipe() again", x.wipe(), 0);
        Due.is("full: write(8) behind it", x.write(8, 0), 8);
        Due.fault(filler(290) + "g1,1,1,1,1", 290);
        Due.fault(filler(289) + "g1,1,1,1,1;", 300);
        Due.fault(filler(297) + "d31", 297);
        Due.fault(filler(299) + "d", 299);
    }

    /** For each n: the last write that is allowed, the first that is not; what was refused wrote no byte. */
    private static void textFilledUp() {
        for (int n = 1; n <= 8; n++) {
            String call = "write(" + n + ", ..)";
            long item = 'd' << 16 | '5' << 8 | ';';
            EnoughGive x = Due.written(filler(300 - n));
            Due.is(call + " to the end", x.write(n, item), 300);
            EnoughGive y = Due.written(filler(301 - n));
            Due.is(call + " over the end by one", y.write(n, item), EnoughGive.FULL);
            Due.is(call + " over the end: count(3)", y.count(3), 301 - n);
            Due.is(call + " over the end: fault()", y.fault(), EnoughGive.NONE);
            if (n > 1) Due.is(call + " over the end: one less", y.write(n - 1, item), 300);
        }
    }

    /** The lowest n bytes, the highest of these first, whatever stands above them. */
    private static void bytesOfOneWrite() {
        String text = "d17;c33;";
        for (int n = 1; n <= 8; n++) {
            for (long above : new long[] {0, -1, 0x6464_6464_6464_6464L}) {
                EnoughGive x = new EnoughGive();
                Due.put(x, text.substring(0, 8 - n));
                long v = above;
                for (int k = 8 - n; k < 8; k++) v = v << 8 | text.charAt(k);
                Due.is("write(" + n + ", " + v + ")", x.write(n, v), 8);
                Due.is("write(" + n + ", " + v + "): fault()", x.fault(), EnoughGive.NONE);
                Due.put(x, SORT + "w0,1,10;");
                Due.is("write(" + n + ", " + v + "): lay()", x.lay(), 1);
                Due.is("write(" + n + ", " + v + "): count(6)", x.count(6), 17);
            }
        }
        EnoughGive x = new EnoughGive();
        Due.is("write(8, -1)", x.write(8, -1L), 8);
        Due.is("write(8, the least)", x.write(8, Long.MIN_VALUE), 16);
        Due.is("write(8, the greatest)", x.write(8, Long.MAX_VALUE), 24);
        Due.is("write(1, the least)", x.write(1, Long.MIN_VALUE), 25);
    }

    // ---- ITEMS

    /** The last number that is allowed and the first that is not, on either side, of each number of each item. */
    private static void boundsOfNumbers() {
        for (int which = 0; which < GOOD.length; which++) {
            good(GOOD[which]);
            for (int k = 0; 2 * k < BOUNDS[which].length; k++) {
                int low = BOUNDS[which][2 * k];
                int high = BOUNDS[which][2 * k + 1];
                good(with(GOOD[which], k, "" + low));
                good(with(GOOD[which], k, "" + high));
                bad(with(GOOD[which], k, "" + (high + 1)));
                bad(with(GOOD[which], k, "999"));
                if (low > 0) bad(with(GOOD[which], k, "" + (low - 1)));
                bad(with(GOOD[which], k, "-1"));
            }
        }
    }

    /** One figure, two, three; none and four are too few and too many, though the number were good. */
    private static void figures() {
        for (int which = 0; which < GOOD.length; which++) {
            for (int k = 0; 2 * k < BOUNDS[which].length; k++) {
                String digit = GOOD[which].charAt(1 + 2 * k) + "";
                if (GOOD[which].charAt(0) != 'g' || k > 0) {
                    good(with(GOOD[which], k, "0" + digit));
                    good(with(GOOD[which], k, "00" + digit));
                }
                bad(with(GOOD[which], k, ""));
                bad(with(GOOD[which], k, "000" + digit));
                bad(with(GOOD[which], k, "00000000000" + digit));
                bad(with(GOOD[which], k, "4294967296"));
            }
        }
        Due.is("two givers by three figures", Due.laid("g002,001,030,000,000;w000,030,010;").count(0), 2);
        Due.is("a day by three figures", Due.laid("d030;g1,1,1,1,1;w0,1,10;").count(6), 30);
    }

    /** One number more or fewer is no item. */
    private static void howManyNumbers() {
        for (String item : GOOD) {
            String body = item.substring(0, item.length() - 1);
            bad(body + ",0;");
            bad(body + ",;");
            bad(body + ",0,0,0,0,0,0;");
            bad(body.substring(0, Math.max(1, body.lastIndexOf(','))) + ";");
        }
    }

    /** Of all bytes only the ten letters begin an item, with as many numbers as each has. */
    private static void letters() {
        int[] numbers = {2, 1, 1, 1, 2, 1, 5, 3, 2, 2};
        for (int letter = 0; letter < 256; letter++) {
            int which = LETTERS.indexOf(letter);
            StringBuilder item = new StringBuilder().append((char) letter);
            for (int n = 1; n <= 6; n++) {
                item.append(n == 1 ? "" : ",").append(which >= 0 && n == 1 && "wt".indexOf(letter) >= 0 ? 0 : 1);
                // Of a g or w alone it is the tenths at the text's end that are missed.
                boolean itIs = which >= 0 && n == numbers[which];
                if (itIs) good(item + ";");
                else bad(item + ";");
            }
        }
    }

    /** In the place of a sign between the numbers no other byte, in the place of a figure none but figures. */
    private static void signsBetween() {
        for (String item : GOOD) {
            for (int at = 1; at < item.length(); at++) {
                boolean figure = Character.isDigit(item.charAt(at));
                for (int sign = 0; sign < 256; sign++) {
                    if (sign == item.charAt(at) || figure && sign >= '0' && sign <= '9') continue;
                    String text = ahead(item.charAt(0)) + item.substring(0, at) + (char) sign + item.substring(at + 1) + "d1;";
                    Due.fault(text, ahead(item.charAt(0)).length());
                }
            }
        }
    }

    /** The sign ; stands behind the last item, too. */
    private static void endOfText() {
        for (String item : GOOD) {
            String ahead = "d2;" + ahead(item.charAt(0));
            for (int length = 1; length < item.length(); length++) {
                Due.fault(ahead + item.substring(0, length), ahead.length());
            }
        }
    }

    /** The first item that is not so, though others behind it are not so either, and though the tenths are not ten. */
    private static void firstFault() {
        Due.fault("d31;", 0);
        Due.fault("d30;d31;c200;", 4);
        Due.fault("d30;c199;p10;o2;", 9);
        Due.fault(";", 0);
        Due.fault("d3;;", 3);
        Due.fault("d3; d3;", 3);
        Due.fault(SORT + "d31;", 11);
        Due.fault(SORT + "w0,1,3;d31;w0,1,3;", 18);
        Due.fault(SORT + "w0,1,3;d30;w0,1,3;", 29);
        Due.fault(SORT + "w0,1,3;d30;w0,1,7;", EnoughGive.NONE);
    }

    // ---- what the ITEMS tell, at their bounds

    private static void bar() {
        Due.is("b1: count(5)", Due.laid("b1,0;g1,5,30,0,0;t0,1;w0,0,10;").count(5), 1);
        Due.is("b60: count(5)", Due.laid("b60,0;g1,5,30,0,0;t0,1;w0,0,10;").count(5), 60);
        Due.built("b1,0;g1,5,30,0,0;t0,1;w0,0,10;", 1);
        Due.built("b1,0;g1,5,30,0,0;t0,0;w0,0,10;", 0);
        Due.built("b60,0;g2,5,30,0,0;t0,30;w0,0,10;", 1);
        Due.built("b60,0;g1,5,30,0,0;t0,30;w0,0,10;g1,5,30,0,0;t1,29;w1,0,10;", 0);
        // By 8 givers or more: eight that give one each, and seven with one that gives nothing.
        Due.built("b8,8;g8,5,30,0,0;t0,1;w0,0,10;", 1);
        Due.built("b8,8;g7,5,30,0,0;t0,2;w0,0,10;g1,5,30,0,0;t1,0;w1,0,10;", 0);
        Due.built("b8,7;g7,5,30,0,0;t0,2;w0,0,10;g1,5,30,0,0;t1,0;w1,0,10;", 1);
        Due.built("b8,0;g1,5,30,0,0;t0,8;w0,0,10;", 1);
        // Without: 20 by none or more.
        Due.is("no b: count(5)", Due.laid(SORT + "w0,1,10;").count(5), 20);
        Due.built("g1,5,30,0,0;t0,20;w0,0,10;", 1);
        Due.built("g1,5,30,0,0;t0,19;w0,0,10;", 0);
        // Of several the last one counts, of both its numbers.
        Due.is("b of several", Due.laid("b9,0;b60,8;b7,2;" + SORT + "w0,1,10;").count(5), 7);
        Due.is("b of several, the highest last", Due.laid("b9,0;b7,2;b60,8;" + SORT + "w0,1,10;").count(5), 60);
        Due.built("b9,0;b10,0;g1,5,30,0,0;t0,9;w0,0,10;", 0);
        Due.built("b1,0;b9,2;g1,5,30,0,0;t0,9;w0,0,10;", 0);
        Due.built("b9,2;b9,0;g1,5,30,0,0;t0,9;w0,0,10;", 1);
        Due.built("b9,2;g1,5,30,0,0;t0,9;w0,0,10;b9,1;", 1);
    }

    private static void lastDay() {
        String givers = "g1,1,9,%d,0;w0,9,10;g1,1,9,%d,0;w1,9,10;";
        int[][] days = {{0, 0, 1}, {30, 30, 30}, {29, 29, 30}, {5, 5, 6}};
        for (int[] d : days) {
            EnoughGive x = Due.laid("d" + d[0] + ";" + String.format(givers, d[1], d[2]));
            Due.is("d" + d[0] + ": count(6)", x.count(6), d[0]);
            Due.is("d" + d[0] + ": one on the last day", x.giver(0, 2), d[1]);
            Due.is("d" + d[0] + ": one of day " + d[2], x.giver(1, 2), d[2] <= d[0] ? d[2] : EnoughGive.NONE);
        }
        EnoughGive x = Due.laid(String.format(givers, 9, 10));
        Due.is("no d: count(6)", x.count(6), 9);
        Due.is("no d: one of day 9", x.giver(0, 2), 9);
        Due.is("no d: one of day 10", x.giver(1, 2), EnoughGive.NONE);
        Due.is("d of several", Due.laid("d30;d0;" + String.format(givers, 0, 1)).count(1), 1);
        Due.is("d of several, behind the sorts", Due.laid("d0;" + String.format(givers, 0, 1) + "d1;").count(1), 2);
    }

    /** Never built, all ways should be or none: the first tells that the worths are what it costs, the second one less. */
    private static void cost() {
        String never = "b60,0;g6,5,0,0,0;w0,30,10;g1,5,0,0,0;";
        Due.is("c199 by 199", Due.laid("c199;" + never + "w1,19,10;").wrong(1), 10_000_000);
        Due.is("c199 by 198", Due.laid("c199;" + never + "w1,18,10;").wrong(1), 0);
        Due.is("c0 by 0", Due.laid("c0;b60,0;g1,5,0,0,0;w0,0,10;").wrong(1), 10);
        Due.is("c1 by 0", Due.laid("c1;b60,0;g1,5,0,0,0;w0,0,10;").wrong(1), 0);
        Due.is("c0 by none that come", Due.laid("d0;c0;g1,5,0,1,0;w0,0,10;").wrong(1), 1);
        Due.is("no c by 20", Due.laid("b60,0;g1,5,0,0,0;w0,20,10;").wrong(1), 10);
        Due.is("no c by 19", Due.laid("b60,0;g1,5,0,0,0;w0,19,10;").wrong(1), 0);
        Due.is("c of several, the lower last", Due.laid("c199;c5;b60,0;g1,5,0,0,0;w0,5,10;").wrong(1), 10);
        Due.is("c of several, the higher last", Due.laid("c5;c199;b60,0;g1,5,0,0,0;w0,5,10;").wrong(1), 0);
    }

    private static void penny() {
        String fails = "b60,0;g1,5,9,0,0;t0,1;w0,9,10;";
        Due.has("p0;" + fails, 0, 0);
        Due.has("p9;" + fails, 0, 9);
        Due.has(fails, 0, 0);
        Due.has("p9;p0;" + fails, 0, 0);
        Due.has("p0;p9;" + fails, 0, 9);
        Due.has("p9;" + fails + "t0,0;", 0, 0);
    }

    private static void extra() {
        String built = "d30;b1,0;g1,5,9,%d,0;t0,1;w0,9,10;";
        Due.has("e9,30;" + String.format(built, 30), 0, 9 - 1 + 9);
        Due.has("e9,29;" + String.format(built, 30), 0, 9 - 1);
        Due.has("e9,29;" + String.format(built, 29), 0, 9 - 1 + 9);
        Due.has("e9,0;" + String.format(built, 0), 0, 9 - 1 + 9);
        Due.has("e9,0;" + String.format(built, 1), 0, 9 - 1);
        Due.has("e0,30;" + String.format(built, 0), 0, 9 - 1);
        Due.has(String.format(built, 0), 0, 9 - 1);
        Due.has("e9,30;e1,0;" + String.format(built, 0), 0, 9 - 1 + 1);
        Due.has("e9,30;e1,0;" + String.format(built, 1), 0, 9 - 1);
        Due.has("e1,0;e9,30;" + String.format(built, 1), 0, 9 - 1 + 9);
    }

    private static void parts() {
        // 9 are given, 8 of them are over the bar: all of his gift's part is 8.
        String over = "b1,0;g1,5,9,0,0;t0,9;w0,9,10;";
        Due.has("o0;" + over, 0, 0);
        Due.has("o1;" + over, 0, 8);
        Due.has(over, 0, 0);
        Due.has("o1;o0;" + over, 0, 0);
        Due.has("o0;o1;" + over, 0, 8);
    }

    private static void sorts() {
        for (int n = 1; n <= 8; n++) {
            EnoughGive x = Due.laid("g" + n + ",1,1,0,0;w0,1,10;");
            Due.is("g" + n + ": count(0)", x.count(0), n);
            Due.is("g" + n + ": count(1)", x.count(1), n);
            Due.is("g" + n + ": the last giver", x.giver(n - 1, 3), n - 1);
            Due.is("g" + n + ": one more", x.giver(n, 3), EnoughGive.BAD);
        }
        for (int kind = 0; kind <= 5; kind++) {
            Due.is("kind " + kind, Due.laid("g1," + kind + ",1,0,0;w0,1,10;").giver(0, 1), kind);
        }
        Due.gives("b60,0;g1,1,0,0,0;w0,30,10;", 0, 0);
        Due.gives("b60,0;g1,1,30,0,0;w0,30,10;", 0, 30);
        // On day A, and each other one E days behind the one ahead.
        int[][] days = {{0, 0, 0}, {0, 9, 9}, {30, 0, 30}, {21, 9, 30}, {22, 9, EnoughGive.NONE}, {30, 9, EnoughGive.NONE}, {30, 1, EnoughGive.NONE}};
        for (int[] d : days) {
            EnoughGive x = Due.laid("d30;g2,1,1," + d[0] + "," + d[1] + ";w0,1,10;");
            Due.is("the first of day " + d[0], x.giver(0, 2), d[0]);
            Due.is("the other " + d[1] + " behind day " + d[0], x.giver(1, 2), d[2]);
        }
        EnoughGive far = Due.laid("d30;g8,1,1,0,9;w0,1,10;");
        int[] come = {0, 9, 18, 27, -4, -4, -4, -4};
        for (int i = 0; i < 8; i++) Due.is("the " + i + "th by nines", far.giver(i, 2), come[i]);
    }

    /** 6 sorts at most, numbered 0, 1, .. */
    private static void sixSorts() {
        String tens = "";
        String text = "";
        for (int s = 0; s < 6; s++) {
            text += "g1,1,1,0,0;";
            tens += "w" + s + ",1,10;";
            EnoughGive x = Due.laid(text + tens);
            Due.is("sorts: count(2)", x.count(2), s + 1);
            Due.is("sorts: of the last giver", x.giver(s, 0), s);
        }
        Due.fault(text + "g1,1,1,0,0;" + tens, 66);
        Due.fault(text + tens + "g1,1,1,0,0;", 66 + 48);
        Due.fault("g3,1,1,0,0;g1,1,1,0,0;g1,1,1,0,0;g1,1,1,0,0;g1,1,1,0,0;g1,1,1,0,0;" + tens, EnoughGive.NONE);
    }

    /** 8 givers of all sorts together at most. */
    private static void eightGivers() {
        String tens = "w0,1,10;w1,1,10;";
        for (int n = 1; n <= 8; n++) {
            String first = "g" + n + ",1,1,0,0;";
            if (n < 8) Due.is("lay() of " + n + " and the rest of 8", Due.laid(first + "g" + (8 - n) + ",1,1,0,0;" + tens).count(0), 8);
            Due.fault(first + "g" + (9 - n) + ",1,1,0,0;" + tens, 11);
            Due.fault(first + "g8,1,1,0,0;" + tens, 11);
        }
        String more = tens + "w2,1,10;w3,1,10;";
        Due.fault("g2,1,1,0,0;g2,1,1,0,0;g2,1,1,0,0;g2,1,1,0,0;" + more, EnoughGive.NONE);
        Due.fault("g2,1,1,0,0;g2,1,1,0,0;g2,1,1,0,0;g3,1,1,0,0;" + more, 33);
        Due.fault("g3,1,1,0,0;g1,1,1,0,0;g1,1,1,0,0;g1,1,1,0,0;g1,1,1,0,0;g2,1,1,0,0;", 55);
    }

    private static void worths() {
        Due.gives("b60,0;g1,1,30,0,0;w0,0,10;", 0, 0);
        Due.gives("b60,0;g1,1,30,0,0;w0,30,10;", 0, 30);
        // One tenth of ten: nine ways of ten are worth 0.
        Due.is("one tenth", Due.laid("b5,0;g1,1,30,0,0;w0,5,1;w0,0,9;").odds(0), 1);
        Due.is("nine tenths", Due.laid("b5,0;g1,1,30,0,0;w0,0,1;w0,5,9;").odds(0), 9);
        Due.is("ten tenths", Due.laid("b5,0;g1,1,30,0,0;w0,5,10;").odds(0), 10);
        // Three worths of each sort, in any order of the sorts, and not four.
        String two = SORT + SORT;
        Due.fault(two + "w0,1,3;w1,1,3;w0,1,3;w1,1,3;w0,1,4;w1,1,4;", EnoughGive.NONE);
        Due.fault(two + "w0,1,3;w1,1,3;w0,1,3;w1,1,3;w0,1,3;w0,1,1;w1,1,4;", 22 + 35);
        Due.fault(SORT + "w0,1,1;w0,1,1;w0,1,1;w0,1,7;", 11 + 21);
        Due.fault(SORT + "w0,1,1;w0,1,1;w0,1,8;w0,31,1;", 11 + 21);
        Due.is("three of the same worth", Due.laid("b1,0;g1,1,1,0,0;w0,1,3;w0,1,3;w0,1,4;").odds(0), 10);
    }

    /** Ten tenths of each sort together: nine and eleven are a fault at the text's end, and so are none. */
    private static void tenthsTogether() {
        Due.fault(SORT, 11);
        Due.fault(SORT + "w0,1,9;", 18);
        Due.fault(SORT + "w0,1,10;", EnoughGive.NONE);
        Due.fault(SORT + "w0,1,5;w0,1,4;", 25);
        Due.fault(SORT + "w0,1,5;w0,1,5;", EnoughGive.NONE);
        Due.fault(SORT + "w0,1,5;w0,1,6;", 25);
        Due.fault(SORT + "w0,1,10;w0,1,1;", 26);
        Due.fault(SORT + "w0,1,10;w0,1,10;w0,1,10;", 35);
        Due.fault(SORT + "w0,1,10;w0,1,1;d3;", 29);
        // Of each sort, not of all together.
        Due.fault(SORT + SORT + "w0,1,9;w1,1,10;w1,1,1;", 44);
        Due.fault(SORT + SORT + "w0,1,10;", 30);
        Due.fault(SORT + SORT + "w1,1,10;", 30);
        Due.fault("w0,1,10;" + SORT, 0);
        EnoughGive x = Due.written(SORT + "w0,1,9;");
        Due.is("nine tenths: lay()", x.lay(), EnoughGive.NO);
        Due.put(x, "w0,1,1;");
        Due.is("nine tenths and one: lay()", x.lay(), 1);
        Due.put(x, "w0,1,1;");
        Due.is("eleven tenths: lay()", x.lay(), EnoughGive.NO);
    }

    private static void toldOnes() {
        String sort = "g1,5,30,0,0;w0,9,10;";
        Due.gives(sort + "t0,0;", 0, 0);
        Due.gives(sort + "t0,30;", 0, 30);
        Due.gives(sort, 0, 0);
        Due.gives(sort + "t0,30;t0,3;", 0, 3);
        Due.gives(sort + "t0,3;t0,30;", 0, 30);
        // Of several of ONE sort: what another sort is told changes nothing.
        String two = sort + "g1,5,30,0,0;w1,9,10;t0,3;t1,4;";
        Due.gives(two, 0, 3);
        Due.gives(two, 1, 4);
        Due.gives(two + "t0,5;", 0, 5);
        Due.gives(two + "t0,5;", 1, 4);
        // A sort of another kind may be told, and gives as its kind does.
        Due.gives("b5,0;g1,1,30,0,0;w0,9,10;t0,30;", 0, 5);
    }

    /** A worth and a gift are told to a sort told ahead of them. */
    private static void toldAhead() {
        String text = "";
        for (int s = 0; s < 6; s++) {
            for (String item : new String[] {"w" + s + ",1,10;", "t" + s + ",1;"}) {
                Due.fault(text + item, text.length());
                Due.fault(text + item + "g1,1,1,0,0;", text.length());
            }
            text += "g1,1,1,0,0;";
            Due.fault(text + "t" + s + ",1;", text.length() + 5);
            Due.fault(text + "w" + s + ",1,0;", text.length());
        }
        Due.fault(text + "w6,1,10;", 66);
        Due.fault(text + "t6,1;", 66);
        Due.fault(text + "w5,1,10;w4,1,10;w3,1,10;w2,1,10;w1,1,10;w0,1,10;t5,1;t0,1;", EnoughGive.NONE);
    }

    private static void secondWish() {
        String giver = "b60,0;g1,1,30,0,0;w0,30,10;";
        Due.is("no s", Due.laid("g1,5,30,0,0;t0,0;w0,30,10;").two(1), EnoughGive.NO);
        String none = "b60,0;g2,5,30,0,0;t0,0;w0,30,10;";
        // Of 30 by 99 hundredths he would give 29, of two 58.
        Due.is("s58,99", Due.laid("s58,99;" + none).two(1), 100);
        Due.is("s59,99", Due.laid("s59,99;" + none).two(1), 0);
        Due.is("s60,99", Due.laid("s60,99;" + none).two(1), 0);
        Due.is("s60 of three", Due.laid("s60,99;b60,0;g3,5,30,0,0;t0,0;w0,30,10;").two(1), 1000);
        Due.is("s1,4: 1.2, cut", Due.laid("s1,4;" + none).two(1), 100);
        Due.is("s1,3: 0.9, cut", Due.laid("s1,3;" + none).two(1), 0);
        Due.is("s1,0", Due.laid("s1,0;" + none).two(1), 0);
        Due.is("s of a purse given away", Due.laid("s1,99;" + giver).two(1), 0);
        Due.is("s of several, the lower last", Due.laid("s60,0;s1,99;" + none).two(1), 100);
        Due.is("s of several, the higher last", Due.laid("s1,99;s60,0;" + none).two(1), 0);
        Due.is("s of several, the higher alone last", Due.laid("s1,99;s59,99;" + none).two(1), 0);
        Due.is("s of several, the lower alone last", Due.laid("s59,99;s1,99;" + none).two(1), 100);
        Due.is("s of several, the greater share last", Due.laid("s9,1;s9,99;" + none).two(1), 100);
        Due.is("s of several, the lesser share last", Due.laid("s9,99;s9,1;" + none).two(1), 0);
        Due.is("s of several, no share last", Due.laid("s9,99;s9,0;" + none).two(1), 0);
    }

    /** A text without fault and with a sort is laid; the terms of the first object are those of its text. */
    private static void laid() {
        Due.is("one sort is enough", Due.written(SORT + "w0,1,10;").lay(), 1);
        Due.is("no sort is too few", Due.written("b1,0;d1;c1;p1;e1,1;o1;s1,1;").lay(), EnoughGive.NO);
        EnoughGive first = new EnoughGive();
        EnoughGive told = Due.laid("g1,1,20,0,0;w0,20,10;");
        told.wipe();
        Due.holds("a new object is laid as g1,1,20,0,0;w0,20,10;", Seen.of(first).equals(Seen.of(told)));
    }
}
