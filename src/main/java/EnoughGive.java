import java.util.Arrays;

/** A board by a ford: givers come on their days and give, and it is built if enough give. */
public final class EnoughGive {
    public static final int BAD = -1, NO = -2, FULL = -3, NONE = -4;

    // What a giver has on an evening may be -1 or -4, so there the two answers lie further down.
    private static final int EVENING_BAD = -1001, EVENING_NONE = -1004;
    private static final int HIGHEST_BAR = 60, HIGHEST_DAY = 30, HIGHEST_EXTRA = 9, HIGHEST_GIFT = 30;
    private static final int HIGHEST_SHOWN = 2, HIGHEST_RICH = 99, HIGHEST_EVENING = 9999;

    private final Text text = new Text();
    private final Reader reader = new Reader();
    private Plan plan = new Plan();
    private Plan draft = new Plan();
    private final Coming coming = new Coming();
    private final Coming otherComing = new Coming();
    private final Game game = new Game();
    private final Ways standing = new Ways();
    private final Ways trial = new Ways();
    private final Rest rest = new Rest();
    private final int[] told = new int[Sorts.MOST_GIVERS];
    private int shown;
    private final Shelf kept = new Shelf();

    // Going through all ways is dear: what it told is used again until something it hangs on changes.
    private boolean standingKnown, barKnown, failsKnown;
    private int barFound;
    private long barWrong, failsFound;

    public EnoughGive() {
        plan.clear();
        plan.sorts.add(1, 1, 20, 0, 0);
        plan.sorts.addWorth(0, 20, 10);
        coming.arrange(plan, plan.lastDay);
    }

    // ---- boards

    public int write(int n, long v) {
        if (!isWithin(n, 1, 8)) return BAD;
        return text.put(n, v) ? text.length : FULL;
    }

    public int wipe() {
        int was = text.length;
        text.length = 0;
        return was;
    }

    public int fault() {
        return reader.read(text, draft);
    }

    public int lay() {
        if (reader.read(text, draft) != NONE || draft.sorts.sorts == 0) return NO;
        Plan before = plan;
        plan = draft;
        draft = before;
        coming.arrange(plan, plan.lastDay);
        Arrays.fill(told, 0);
        shown = 0;
        kept.count = 0;
        failsKnown = false;
        forgetWays();
        return plan.sorts.givers;
    }

    public int giver(int i, int what) {
        if (!isGiver(i) || !isWithin(what, 0, 3)) return BAD;
        int place = coming.placeOf(i);
        switch (what) {
            case 0: return plan.sorts.sortOf(i);
            case 1: return plan.sorts.kind[plan.sorts.sortOf(i)];
            case 2: return place == NONE ? NONE : coming.day[place];
            default: return place;
        }
    }

    public int show(int how) {
        if (!isWithin(how, 0, HIGHEST_SHOWN)) return BAD;
        int was = shown;
        shown = how;
        forgetWays();
        return was;
    }

    // ---- chances

    public long odds(int what) {
        if (!isWithin(what, 0, 2)) return BAD;
        long built = waysAsTheyStand().built;
        if (what == 0) return built;
        long all = coming.allWays();
        long part = greatestPart(built, all);
        return (what == 1 ? built : all) / part;
    }

    public long mean(int i, int what) {
        if (!isGiver(i) || !isWithin(what, 0, 1)) return Long.MIN_VALUE;
        int place = coming.placeOf(i);
        if (place == NONE) return NONE;
        Ways ways = waysAsTheyStand();
        return what == 0 ? ways.gives[place] : ways.has[place];
    }

    public long wrong(int what) {
        if (!isWithin(what, 0, 1)) return BAD;
        Ways ways = waysAsTheyStand();
        return what == 0 ? ways.needless : ways.missed;
    }

    public int row(int i, int gift) {
        if (!isGiver(i) || !isWithin(gift, 0, HIGHEST_GIFT)) return BAD;
        int was = told[i];
        told[i] = gift;
        return was;
    }

    public int judge() {
        setGame();
        int given = 0;
        for (int p = 0; p < coming.count; p++) {
            int i = coming.giver[p];
            if (game.giftAt(p, coming.greatest[p], given) != told[i]) return i;
            given += told[i];
        }
        return NONE;
    }

    public int made(int what) {
        if (!isWithin(what, 0, 1)) return BAD;
        int given = 0;
        int who = 0;
        for (int p = 0; p < coming.count; p++) {
            int gift = told[coming.giver[p]];
            given += gift;
            if (gift > 0) who++;
        }
        if (what == 0) return given;
        return given >= plan.bar && who >= plan.need ? 1 : 0;
    }

    // ---- rests

    public long just(int i) {
        if (i != -1 && (!isGiver(i) || coming.placeOf(i) == NONE)) return BAD;
        rest.take(plan, coming);
        long ways = rest.justWays();
        if (i == -1) return ways;
        return ways == 0 ? NONE : rest.firstGift(i);
    }

    public long fails() {
        if (!failsKnown) {
            rest.take(plan, coming);
            failsFound = rest.failingWays();
            failsKnown = true;
        }
        return failsFound;
    }

    public long bestBar(int what) {
        if (!isWithin(what, 0, 1)) return BAD;
        if (!barKnown) {
            findBestBar();
            barKnown = true;
        }
        return what == 0 ? barFound : barWrong;
    }

    public int bestDay() {
        int best = 0;
        long most = -1;
        for (int day = 0; day <= HIGHEST_DAY; day++) {
            boolean others = otherComing.arrange(plan, day);
            // The same givers in the same order give the same odds: the first such day stands for them all.
            if (day > 0 && !others) continue;
            game.set(plan, otherComing, shown);
            trial.goThrough(game, false);
            long odds = trial.built * otherComing.waysOfAbsent();
            if (odds > most) {
                most = odds;
                best = day;
            }
        }
        return best;
    }

    public int extra(int q) {
        if (!isWithin(q, 0, 10)) return BAD;
        for (int e = 0; e <= HIGHEST_EXTRA; e++) {
            setGame();
            game.extra = e;
            trial.goThrough(game, false);
            if (trial.built * 10 >= q * coming.allWays()) return e;
        }
        return NONE;
    }

    public int bestShow() {
        int best = 0;
        long most = -1;
        for (int how = 0; how <= HIGHEST_SHOWN; how++) {
            game.set(plan, coming, how);
            trial.goThrough(game, false);
            if (trial.built > most) {
                most = trial.built;
                best = how;
            }
        }
        return best;
    }

    public long rich(int r, int day) {
        if (!isWithin(r, 0, HIGHEST_RICH) || !isWithin(day, 0, plan.lastDay)) return BAD;
        return richWays(r, coming.comeBy(day));
    }

    public int richDay(int r) {
        if (!isWithin(r, 0, HIGHEST_RICH)) return BAD;
        int best = 0;
        long most = -1;
        int tried = -1;
        for (int day = 0; day <= plan.lastDay; day++) {
            int ahead = coming.comeBy(day);
            if (ahead == tried) continue;
            tried = ahead;
            long ways = richWays(r, ahead);
            if (ways > most) {
                most = ways;
                best = day;
            }
        }
        return best;
    }

    public long two(int what) {
        if (!isWithin(what, 0, 2)) return BAD;
        if (plan.secondBar == 0) return NO;
        Ways ways = waysAsTheyStand();
        if (what == 0) return ways.built;
        return what == 1 ? ways.secondBuilt : ways.bothBuilt;
    }

    // ---- evenings

    public int evening(int z, int i, int what) {
        if (!isWithin(z, 0, HIGHEST_EVENING) || !isGiver(i) || !isWithin(what, 0, 1)) return EVENING_BAD;
        int place = coming.placeOf(i);
        if (place == NONE) return EVENING_NONE;
        playEvening(z);
        return what == 0 ? game.gift[place] : game.hasAt(place, drawnWorth(z, place));
    }

    public int whole(int z, int what) {
        if (!isWithin(z, 0, HIGHEST_EVENING) || !isWithin(what, 0, 1)) return BAD;
        playEvening(z);
        if (what == 0) return game.given[coming.count];
        return game.isBuilt() ? 1 : 0;
    }

    public int keep() {
        return kept.put(told, shown) ? kept.count : FULL;
    }

    public int back() {
        if (kept.count < 1) return NO;
        shown = kept.takeInto(told);
        forgetWays();
        return kept.count;
    }

    public int count(int what) {
        switch (what) {
            case 0: return plan.sorts.givers;
            case 1: return coming.count;
            case 2: return plan.sorts.sorts;
            case 3: return text.length;
            case 4: return kept.count;
            case 5: return plan.bar;
            case 6: return plan.lastDay;
            default: return BAD;
        }
    }

    // ---- the object's own

    private static boolean isWithin(int x, int low, int high) {
        return x >= low && x <= high;
    }

    private boolean isGiver(int i) {
        return i >= 0 && i < plan.sorts.givers;
    }

    private static long greatestPart(long a, long b) {
        // Euclid's steps: under a hundred for any two longs.
        for (int steps = 0; steps < 100 && b != 0; steps++) {
            long left = a % b;
            a = b;
            b = left;
        }
        return a == 0 ? 1 : a;
    }

    private void forgetWays() {
        standingKnown = false;
        barKnown = false;
    }

    private void setGame() {
        game.set(plan, coming, shown);
    }

    private Ways waysAsTheyStand() {
        if (!standingKnown) {
            setGame();
            standing.goThrough(game, true);
            standingKnown = true;
        }
        return standing;
    }

    private void findBestBar() {
        for (int bar = 1; bar <= HIGHEST_BAR; bar++) {
            setGame();
            game.bar = bar;
            trial.goThrough(game, false);
            long wrongWays = trial.needless + trial.missed;
            if (bar == 1 || wrongWays < barWrong) {
                barFound = bar;
                barWrong = wrongWays;
            }
        }
    }

    private long richWays(int most, int ahead) {
        setGame();
        game.richMost = most;
        game.richBehind = ahead - 1;
        trial.goThrough(game, false);
        return trial.built;
    }

    private void playEvening(int z) {
        setGame();
        for (int p = 0; p < coming.count; p++) game.play(p, drawnWorth(z, p));
    }

    private int drawnWorth(int z, int place) {
        long x = 7919L * z + 6151L * coming.giver[place] + 1;
        return coming.worthBy(place, (int) (x * x % 65521 % 10));
    }

    /** The bytes written so far. */
    private static final class Text {
        static final int MOST = 300;

        final int[] bytes = new int[MOST];
        int length;

        boolean put(int n, long v) {
            if (length + n > MOST) return false;
            for (int k = n - 1; k >= 0; k--) {
                bytes[length] = (int) (v >>> (8 * k)) & 255;
                length++;
            }
            return true;
        }

        /** The byte there; -1 behind the end. */
        int byteAt(int at) {
            return at >= 0 && at < length ? bytes[at] : -1;
        }
    }

    /** The boards kept, the last one taken off first. */
    private static final class Shelf {
        private static final int MOST = 2;

        int count;
        private final int[] rows = new int[MOST * Sorts.MOST_GIVERS];
        private final int[] shown = new int[MOST];

        boolean put(int[] row, int itsShown) {
            if (count < 0 || count >= MOST || row.length < Sorts.MOST_GIVERS) return false;
            System.arraycopy(row, 0, rows, count * Sorts.MOST_GIVERS, Sorts.MOST_GIVERS);
            shown[count] = itsShown;
            count++;
            return true;
        }

        /** Takes the last one off: its row into the row given, what was shown as the answer. */
        int takeInto(int[] row) {
            if (count < 1 || count > MOST || row.length < Sorts.MOST_GIVERS) return 0;
            count--;
            System.arraycopy(rows, count * Sorts.MOST_GIVERS, row, 0, Sorts.MOST_GIVERS);
            return shown[count];
        }
    }

    /** The sorts of givers as a text tells them, and the givers by number. */
    private static final class Sorts {
        static final int MOST_SORTS = 6, MOST_GIVERS = 8, MOST_WORTHS = 3;

        int sorts, givers;
        final int[] kind = new int[MOST_SORTS];
        final int[] purse = new int[MOST_SORTS];
        final int[] told = new int[MOST_SORTS];
        final int[] worths = new int[MOST_SORTS];
        final int[] worth = new int[MOST_SORTS * MOST_WORTHS];
        final int[] tenths = new int[MOST_SORTS * MOST_WORTHS];
        final int[] sort = new int[MOST_GIVERS];
        final int[] wouldCome = new int[MOST_GIVERS];

        void clear() {
            sorts = 0;
            givers = 0;
        }

        boolean has(int s) {
            return s >= 0 && s < sorts;
        }

        boolean add(int n, int itsKind, int itsPurse, int first, int gap) {
            if (sorts >= MOST_SORTS || n < 1 || givers + n > MOST_GIVERS) return false;
            kind[sorts] = itsKind;
            purse[sorts] = itsPurse;
            told[sorts] = 0;
            worths[sorts] = 0;
            for (int k = 0; k < n; k++) {
                sort[givers] = sorts;
                wouldCome[givers] = first + k * gap;
                givers++;
            }
            sorts++;
            return true;
        }

        boolean addWorth(int s, int itsWorth, int itsTenths) {
            if (!has(s) || worths[s] >= MOST_WORTHS) return false;
            worth[s * MOST_WORTHS + worths[s]] = itsWorth;
            tenths[s * MOST_WORTHS + worths[s]] = itsTenths;
            worths[s]++;
            return true;
        }

        boolean tell(int s, int gift) {
            if (!has(s)) return false;
            told[s] = gift;
            return true;
        }

        /** Whether the tenths of each sort are ten together. */
        boolean areWhole() {
            for (int s = 0; s < sorts; s++) {
                int together = 0;
                for (int k = 0; k < worths[s]; k++) together += tenths[s * MOST_WORTHS + k];
                if (together != 10) return false;
            }
            return true;
        }

        int sortOf(int i) {
            return i >= 0 && i < givers ? sort[i] : 0;
        }
    }

    /** What a text without fault tells. */
    private static final class Plan {
        int bar, need, lastDay, cost, penny, extra, extraDay, secondBar, secondShare;
        boolean parts;
        final Sorts sorts = new Sorts();

        void clear() {
            bar = 20;
            need = 0;
            lastDay = 9;
            cost = 20;
            penny = 0;
            extra = 0;
            extraDay = 0;
            parts = false;
            secondBar = 0;
            secondShare = 0;
            sorts.clear();
        }

        void setBar(int steps, int givers) {
            bar = steps;
            need = givers;
        }

        void setExtra(int more, int day) {
            extra = more;
            extraDay = day;
        }

        void setSecond(int steps, int share) {
            secondBar = steps;
            secondShare = share;
        }
    }

    /** Reads a text into a plan. */
    private static final class Reader {
        private static final int MOST_NUMBERS = 5, MOST_FIGURES = 3;

        private final int[] numbers = new int[MOST_NUMBERS];
        private int at;

        /** The place of the fault, or NONE; without fault the plan is what the text tells. */
        int read(Text text, Plan into) {
            into.clear();
            at = 0;
            for (int items = 0; items < Text.MOST && at < text.length; items++) {
                int start = at;
                int letter = text.byteAt(start);
                at++;
                if (!readNumbers(text, numbersOf(letter)) || !take(letter, into)) return start;
            }
            return into.sorts.areWhole() ? NONE : text.length;
        }

        /** How many numbers stand behind a letter; 0 if no item begins with it. */
        private static int numbersOf(int letter) {
            switch (letter) {
                case 'd': case 'c': case 'p': case 'o': return 1;
                case 'b': case 'e': case 't': case 's': return 2;
                case 'w': return 3;
                case 'g': return 5;
                default: return 0;
            }
        }

        private boolean readNumbers(Text text, int wanted) {
            if (wanted < 1 || wanted > MOST_NUMBERS) return false;
            for (int k = 0; k < wanted; k++) {
                numbers[k] = readNumber(text);
                if (numbers[k] < 0 || text.byteAt(at) != (k < wanted - 1 ? ',' : ';')) return false;
                at++;
            }
            return true;
        }

        /** The number from here on; -1 if there is none, or it has too many figures. */
        private int readNumber(Text text) {
            int value = 0;
            int figures = 0;
            while (figures <= MOST_FIGURES && isWithin(text.byteAt(at), '0', '9')) {
                value = value * 10 + text.byteAt(at) - '0';
                figures++;
                at++;
            }
            return figures >= 1 && figures <= MOST_FIGURES ? value : -1;
        }

        private boolean upTo(int k, int high) {
            return k >= 0 && k < MOST_NUMBERS && numbers[k] <= high;
        }

        private boolean take(int letter, Plan into) {
            switch (letter) {
                case 'b':
                    if (numbers[0] < 1 || !upTo(0, HIGHEST_BAR) || !upTo(1, 8)) return false;
                    into.setBar(numbers[0], numbers[1]);
                    return true;
                case 'd':
                    into.lastDay = numbers[0];
                    return upTo(0, HIGHEST_DAY);
                case 'c':
                    into.cost = numbers[0];
                    return upTo(0, 199);
                case 'p':
                    into.penny = numbers[0];
                    return upTo(0, 9);
                case 'e':
                    into.setExtra(numbers[0], numbers[1]);
                    return upTo(0, HIGHEST_EXTRA) && upTo(1, HIGHEST_DAY);
                case 'o':
                    into.parts = numbers[0] == 1;
                    return upTo(0, 1);
                case 's':
                    into.setSecond(numbers[0], numbers[1]);
                    return numbers[0] >= 1 && upTo(0, HIGHEST_BAR) && upTo(1, 99);
                default:
                    return takeSort(letter, into.sorts);
            }
        }

        private boolean takeSort(int letter, Sorts into) {
            switch (letter) {
                case 'g':
                    return upTo(1, 5) && upTo(2, 30) && upTo(3, HIGHEST_DAY) && upTo(4, 9)
                        && into.add(numbers[0], numbers[1], numbers[2], numbers[3], numbers[4]);
                case 'w':
                    return upTo(1, 30) && numbers[2] >= 1 && upTo(2, 10)
                        && into.addWorth(numbers[0], numbers[1], numbers[2]);
                case 't':
                    return upTo(1, HIGHEST_GIFT) && into.tell(numbers[0], numbers[1]);
                default:
                    return false;
            }
        }
    }

    /** The givers that come by a last day, by their place. */
    private static final class Coming {
        private static final int SLY = 4;

        int count;
        final int[] giver = new int[Sorts.MOST_GIVERS];
        final int[] day = new int[Sorts.MOST_GIVERS];
        final int[] kind = new int[Sorts.MOST_GIVERS];
        final int[] purse = new int[Sorts.MOST_GIVERS];
        final int[] told = new int[Sorts.MOST_GIVERS];
        final int[] greatest = new int[Sorts.MOST_GIVERS];
        final int[] worths = new int[Sorts.MOST_GIVERS];
        final int[] worth = new int[Sorts.MOST_GIVERS * Sorts.MOST_WORTHS];
        final int[] tenths = new int[Sorts.MOST_GIVERS * Sorts.MOST_WORTHS];
        private final int[] comes = new int[Sorts.MOST_GIVERS];

        /** Whether others come now, or in another order, than came ahead. */
        boolean arrange(Plan plan, int lastDay) {
            Sorts sorts = plan.sorts;
            for (int i = 0; i < sorts.givers; i++) {
                boolean sly = sorts.kind[sorts.sort[i]] == SLY;
                if (sly) comes[i] = lastDay;
                else comes[i] = sorts.wouldCome[i] <= lastDay ? sorts.wouldCome[i] : NONE;
            }
            int was = count;
            count = 0;
            boolean others = false;
            for (int when = 0; when <= lastDay; when++) {
                for (int i = 0; i < sorts.givers; i++) {
                    if (comes[i] != when || count >= Sorts.MOST_GIVERS) continue;
                    if (count >= was || giver[count] != i) others = true;
                    seat(sorts, i, when);
                }
            }
            return others || count != was;
        }

        private void seat(Sorts sorts, int i, int when) {
            int s = sorts.sortOf(i);
            giver[count] = i;
            day[count] = when;
            kind[count] = sorts.kind[s];
            purse[count] = sorts.purse[s];
            told[count] = sorts.told[s];
            worths[count] = sorts.worths[s];
            greatest[count] = 0;
            for (int k = 0; k < sorts.worths[s]; k++) {
                int w = sorts.worth[s * Sorts.MOST_WORTHS + k];
                worth[count * Sorts.MOST_WORTHS + k] = w;
                tenths[count * Sorts.MOST_WORTHS + k] = sorts.tenths[s * Sorts.MOST_WORTHS + k];
                greatest[count] = Math.max(greatest[count], w);
            }
            count++;
        }

        /** The place of a giver; NONE if it does not come. */
        int placeOf(int i) {
            for (int p = 0; p < count; p++) {
                if (giver[p] == i) return p;
            }
            return NONE;
        }

        /** How many come on the day or ahead of it. */
        int comeBy(int lastDay) {
            int by = 0;
            for (int p = 0; p < count; p++) {
                if (day[p] <= lastDay) by++;
            }
            return by;
        }

        long allWays() {
            return power(count);
        }

        /** By this many the ways are multiplied so that odds of different numbers of givers compare. */
        long waysOfAbsent() {
            return power(Sorts.MOST_GIVERS - count);
        }

        private static long power(int n) {
            long all = 1;
            for (int k = 0; k < n; k++) all *= 10;
            return all;
        }

        /** The first worth by which the draw is below its tenths and those told ahead together. */
        int worthBy(int place, int draw) {
            if (place < 0 || place >= count) return 0;
            int together = 0;
            for (int k = 0; k < worths[place]; k++) {
                together += tenths[place * Sorts.MOST_WORTHS + k];
                if (draw < together) return worth[place * Sorts.MOST_WORTHS + k];
            }
            return 0;
        }
    }

    /** One play of the board, giver by giver; its terms may be changed for a trial. */
    private static final class Game {
        private static final int FREE = 0, WARM = 2, EARLY = 3, SLY = 4, TOLD = 5;
        private static final int SHOWN_NOTHING = 1, SHOWN_TENS = 2;

        // Nobody comes until a game is set.
        private Plan plan = new Plan();
        private Coming coming = new Coming();
        private int shown;
        int bar, extra, richMost, richBehind;
        final int[] gift = new int[Sorts.MOST_GIVERS];
        // What stands on the board ahead of each place, and in the end.
        final int[] given = new int[Sorts.MOST_GIVERS + 1];
        private final int[] who = new int[Sorts.MOST_GIVERS + 1];
        private final int[] second = new int[Sorts.MOST_GIVERS + 1];

        /** As the plan tells, and without a rich one. */
        void set(Plan newPlan, Coming newComing, int newShown) {
            plan = newPlan;
            coming = newComing;
            shown = newShown;
            bar = plan.bar;
            extra = plan.extra;
            richMost = 0;
            richBehind = -1;
        }

        Coming whoCome() {
            return coming;
        }

        int cost() {
            return plan.cost;
        }

        /** The one at the place gives, and behind him perhaps the rich one. */
        void play(int p, int worth) {
            if (p < 0 || p >= coming.count) return;
            int itsGift = giftAt(p, worth, given[p]);
            gift[p] = itsGift;
            given[p + 1] = given[p] + itsGift;
            if (p == richBehind) given[p + 1] += Math.min(given[p + 1], richMost);
            who[p + 1] = who[p] + (itsGift > 0 ? 1 : 0);
            if (plan.secondBar > 0) second[p + 1] = second[p] + secondGiftAt(p, worth, second[p]);
        }

        int giftAt(int p, int worth, int givenAhead) {
            if (p < 0 || p >= coming.count) return 0;
            int purse = coming.purse[p];
            int most = Math.min(worth, purse);
            int lack = lackOf(bar, givenAhead);
            int kind = coming.kind[p];
            if (kind == TOLD) return Math.min(coming.told[p], purse);
            if (kind == EARLY && coming.day[p] <= plan.extraDay) {
                return Math.min(lack, Math.min(most + extra, purse));
            }
            return giftByKind(kind, most, lack, coming.count - p);
        }

        private int secondGiftAt(int p, int worth, int givenAhead) {
            int most = Math.min(worth * plan.secondShare / 100, coming.purse[p] - gift[p]);
            return giftByKind(coming.kind[p], most, lackOf(plan.secondBar, givenAhead), coming.count - p);
        }

        private int lackOf(int itsBar, int givenAhead) {
            int board = givenAhead;
            if (shown == SHOWN_NOTHING) board = 0;
            if (shown == SHOWN_TENS) board = givenAhead / 10 * 10;
            return Math.max(0, itsBar - board);
        }

        /** Told ones, and early ones off the days of the extra, give as fair ones. */
        private static int giftByKind(int kind, int most, int lack, int toCome) {
            switch (kind) {
                case FREE: return toCome == 1 && lack <= most ? lack : 0;
                case WARM: return (most + 1) / 2;
                case SLY: return lack <= most ? lack : 0;
                default: return toCome < 1 ? 0 : Math.min((lack + toCome - 1) / toCome, most);
            }
        }

        boolean isBuilt() {
            return given[coming.count] >= bar && who[coming.count] >= plan.need;
        }

        boolean isSecondBuilt() {
            return plan.secondBar > 0 && second[coming.count] >= plan.secondBar;
        }

        /** What the one at the place has when all have given. */
        int hasAt(int p, int worth) {
            if (p < 0 || p >= coming.count) return 0;
            int itsGift = gift[p];
            if (!isBuilt()) return itsGift > 0 ? plan.penny : 0;
            int has = worth - itsGift;
            if (itsGift > 0 && coming.day[p] <= plan.extraDay) has += extra;
            int all = given[coming.count];
            if (plan.parts && all > 0) has += itsGift * (all - bar) / all;
            return has;
        }
    }

    /** All chances gone through: each giver's worths in turn, and what comes of them. */
    private static final class Ways {
        // Three worths of each of eight givers.
        private static final int MOST_WAYS = 6561;

        long built, needless, missed, secondBuilt, bothBuilt;
        final long[] gives = new long[Sorts.MOST_GIVERS];
        final long[] has = new long[Sorts.MOST_GIVERS];
        private final int[] pick = new int[Sorts.MOST_GIVERS];
        // Of those ahead of each place: their tenths multiplied, their worths together.
        private final long[] weight = new long[Sorts.MOST_GIVERS + 1];
        private final int[] together = new int[Sorts.MOST_GIVERS + 1];

        void goThrough(Game game, boolean withMeans) {
            clear();
            Coming coming = game.whoCome();
            int from = 0;
            for (int way = 0; way < MOST_WAYS && from >= 0; way++) {
                // Those ahead of the changed one give as in the way before.
                for (int p = from; p < coming.count; p++) {
                    int at = p * Sorts.MOST_WORTHS + pick[p];
                    weight[p + 1] = weight[p] * coming.tenths[at];
                    together[p + 1] = together[p] + coming.worth[at];
                    game.play(p, coming.worth[at]);
                }
                add(game, coming.count);
                if (withMeans) addMeans(game, coming);
                from = nextWay(coming);
            }
        }

        private void clear() {
            built = 0;
            needless = 0;
            missed = 0;
            secondBuilt = 0;
            bothBuilt = 0;
            Arrays.fill(gives, 0);
            Arrays.fill(has, 0);
            Arrays.fill(pick, 0);
            weight[0] = 1;
        }

        private void add(Game game, int n) {
            boolean is = game.isBuilt();
            boolean should = together[n] >= game.cost();
            boolean second = game.isSecondBuilt();
            if (is) built += weight[n];
            if (is && !should) needless += weight[n];
            if (!is && should) missed += weight[n];
            if (second) secondBuilt += weight[n];
            if (is && second) bothBuilt += weight[n];
        }

        private void addMeans(Game game, Coming coming) {
            for (int p = 0; p < coming.count; p++) {
                int worth = coming.worth[p * Sorts.MOST_WORTHS + pick[p]];
                gives[p] += weight[coming.count] * game.gift[p];
                has[p] += weight[coming.count] * game.hasAt(p, worth);
            }
        }

        /** The first place at which the next way differs; -1 behind the last way. */
        private int nextWay(Coming coming) {
            for (int p = coming.count - 1; p >= 0; p--) {
                pick[p]++;
                if (pick[p] < coming.worths[p]) return p;
                pick[p] = 0;
            }
            return -1;
        }
    }

    /** Gifts at rest, counted by a table of what they are together and how many gave. */
    private static final class Rest {
        private static final int WIDE = HIGHEST_BAR + 1;

        private Coming coming = new Coming();
        private int bar, need, penny;
        private final int[] most = new int[Sorts.MOST_GIVERS];
        private final long[] table = new long[(Sorts.MOST_GIVERS + 1) * WIDE];

        void take(Plan plan, Coming newComing) {
            coming = newComing;
            bar = plan.bar;
            need = plan.need;
            penny = plan.penny;
            for (int p = 0; p < coming.count; p++) most[p] = Math.min(coming.greatest[p], coming.purse[p]);
        }

        private void clearTable() {
            Arrays.fill(table, 0);
            table[0] = 1;
        }

        /** One more giver gives from low to high, or, if he may, nothing. */
        private void join(int low, int high, boolean mayNot, int sum, int who) {
            if (low < 1 || high < low - 1 || sum >= WIDE || who > Sorts.MOST_GIVERS) return;
            for (int k = who; k >= 0; k--) {
                int here = k * WIDE;
                // The ways in which one fewer gave as much less as he may give.
                long gave = 0;
                for (int s = 0; s <= sum; s++) {
                    if (k > 0 && s >= low) gave += table[here - WIDE + s - low];
                    if (k > 0 && s > high) gave -= table[here - WIDE + s - high - 1];
                    table[here + s] = gave + (mayNot ? table[here + s] : 0);
                }
            }
        }

        long justWays() {
            clearTable();
            for (int p = 0; p < coming.count; p++) join(1, most[p], true, bar, coming.count);
            long ways = 0;
            for (int k = need; k <= coming.count; k++) ways += table[k * WIDE + bar];
            return ways;
        }

        /** The gift of a giver in the first gifts that are just enough; only where there are such. */
        int firstGift(int giver) {
            int left = bar;
            int needed = need;
            for (int i = 0; i <= giver && i < Sorts.MOST_GIVERS; i++) {
                int place = coming.placeOf(i);
                if (place == NONE) continue;
                int gift = lowestGift(i, most[place], left, needed);
                if (i == giver) return gift;
                left -= gift;
                if (gift > 0) needed--;
            }
            return 0;
        }

        /** The lowest gift behind which those of higher numbers can give what is left. */
        private int lowestGift(int i, int high, int left, int needed) {
            int can = 0;
            int hands = 0;
            for (int p = 0; p < coming.count; p++) {
                if (coming.giver[p] <= i) continue;
                can += most[p];
                if (most[p] > 0) hands++;
            }
            for (int gift = 0; gift < high; gift++) {
                int others = left - gift;
                int neededOthers = needed - (gift > 0 ? 1 : 0);
                if (others <= can && Math.min(hands, others) >= neededOthers) return gift;
            }
            return high;
        }

        long failingWays() {
            long ways = 0;
            for (int sum = 0; sum < bar; sum++) {
                for (int who = 0; who <= coming.count && who <= sum; who++) ways += failingWays(sum, who);
            }
            return ways;
        }

        /** Of those by which so much is given by so many. */
        private long failingWays(int sum, int who) {
            clearTable();
            for (int p = 0; p < coming.count; p++) {
                join(lowestAtRest(p, sum, who), most[p], isNoneAtRest(p, sum, who), sum, who);
            }
            return table[who * WIDE + sum];
        }

        /** The least gift above 0 by which he who gives it would not have more by another one. */
        private int lowestAtRest(int p, int sum, int who) {
            if (who < need) return 1;
            int lack = bar - sum;
            int cannotBuild = most[p] - lack + 1;
            int wouldNotBuild = coming.greatest[p] - lack - penny;
            return Math.max(1, Math.min(cannotBuild, wouldNotBuild));
        }

        /** Whether he who gives nothing would not have more by a gift. */
        private boolean isNoneAtRest(int p, int sum, int who) {
            int lack = bar - sum;
            boolean enoughWho = who + 1 >= need;
            boolean canBuild = enoughWho && lack <= most[p];
            if (canBuild && coming.greatest[p] > lack) return false;
            int mostThatFails = enoughWho ? Math.min(most[p], lack - 1) : most[p];
            return penny == 0 || mostThatFails < 1;
        }
    }
}
