import java.util.Random;

/** Gifts at REST of up to eight givers: all rows of gifts looked at, one by one, by a fixed seed. */
public final class RestRowsTest {
    private static final int BOARDS = 300;
    private static final long MOST_ROWS = 500_000;

    private final int bar, need, penny;
    private final int[] most = new int[8];
    private final int[] worth = new int[8];
    private final boolean[] comes = new boolean[8];
    private int givers;
    private final String text;
    private long just, fails;
    private int[] first;

    private RestRowsTest(Random random) {
        StringBuilder s = new StringBuilder();
        int together = 0;
        int low = 2 + random.nextInt(12);
        for (int sort = 0; sort < 6 && givers < 8; sort++) {
            int n = 1 + random.nextInt(Math.min(4, 8 - givers));
            int purse = random.nextInt(random.nextBoolean() ? low : 31);
            int some = random.nextInt(low);
            int other = random.nextInt(random.nextBoolean() ? low : 31);
            int day = random.nextInt(11);
            s.append(String.format("g%d,%d,%d,%d,0;w%d,%d,9;w%d,%d,1;", n, random.nextInt(4), purse, day, sort, some, sort, other));
            for (int k = 0; k < n; k++) {
                comes[givers] = day <= 9;
                worth[givers] = Math.max(some, other);
                most[givers] = comes[givers] ? Math.min(purse, worth[givers]) : 0;
                together += most[givers];
                givers++;
            }
        }
        bar = 1 + random.nextInt(Math.min(60, together + 3));
        need = random.nextInt(9);
        penny = random.nextInt(3) == 0 ? 0 : random.nextInt(10);
        text = s + "b" + bar + "," + need + ";p" + penny + ";";
    }

    private long rows() {
        long rows = 1;
        for (int i = 0; i < givers; i++) rows *= most[i] + 1;
        return rows;
    }

    private void look(int i, int[] gifts, int sum, int who) {
        if (i < givers) {
            for (int gift = 0; gift <= most[i]; gift++) {
                gifts[i] = gift;
                look(i + 1, gifts, sum + gift, gift > 0 ? who + 1 : who);
            }
            gifts[i] = 0;
            return;
        }
        if (sum == bar && who >= need) {
            just++;
            if (first == null) first = gifts.clone();
        }
        if (sum < bar && rests(gifts, sum, who)) fails++;
    }

    /** Whether none that comes has more by another gift. */
    private boolean rests(int[] gifts, int sum, int who) {
        for (int i = 0; i < givers; i++) {
            if (!comes[i]) continue;
            int has = gifts[i] > 0 ? penny : 0;
            for (int other = 0; other <= most[i]; other++) {
                int sumThen = sum - gifts[i] + other;
                int whoThen = who - Math.min(1, gifts[i]) + Math.min(1, other);
                int hasThen = sumThen >= bar && whoThen >= need ? worth[i] - other : other > 0 ? penny : 0;
                if (hasThen > has) return false;
            }
        }
        return true;
    }

    private void compare() {
        look(0, new int[8], 0, 0);
        EnoughGive x = Due.laid(text);
        Due.is("just(-1) by " + text, x.just(-1), just);
        Due.is("fails() by " + text, x.fails(), fails);
        for (int i = 0; i < givers; i++) {
            int want = !comes[i] ? EnoughGive.BAD : first == null ? EnoughGive.NONE : first[i];
            Due.is("just(" + i + ") by " + text, x.just(i), want);
        }
    }

    public static void main(String[] args) {
        Random random = new Random(9);
        int boards = 0;
        for (int k = 0; k < 100_000 && boards < BOARDS; k++) {
            RestRowsTest board = new RestRowsTest(random);
            if (board.rows() > MOST_ROWS || board.rows() < 100) continue;
            board.compare();
            boards++;
        }
        Due.is("boards looked at", boards, BOARDS);
        Due.end("rows of gifts at rest");
    }
}
