import java.util.Arrays;
import java.util.NoSuchElementException;

/** A fishmonger of last words; ../shared/DOC.md promises what each call answers. */
public final class LastCatch {
    public static final int NONE = -1;

    private static final int CELLS = 25;
    private static final int ROW = 5;
    private static final int HARBOUR = 0;
    private static final int STILL = 4;
    private static final int KINDS = 4;
    private static final int MOST_FISH = 8;
    private static final int MOST_BOATS = 3;
    private static final int MOST_BUYERS = 5;
    private static final int MOST_DEAD = 6;
    private static final int SETS_OF_FISH = 256;
    private static final int MOST_TEXTS = 12;
    private static final int MOST_DAYS = 60;
    private static final int MOST_HAUL_DAYS = 5;
    private static final int MOST_GAP = 20;
    private static final int MOST_TURNS = 12;
    private static final int MOST_ODDS_DAYS = 4;
    private static final int MOST_PART = 99;
    private static final int MOST_FRESH = 99;
    private static final int TOLD_FRESH = 90;
    private static final int MOST_OF_THREE_DIGITS = 999;
    private static final int MOST_TILL = 9999;
    private static final int MOST_DAY = 9999;
    private static final int SEEDS_OF_SPAN = 6;
    private static final int NO_ROW = -2;

    private final Sea now = new Sea();
    private final Sea draft = new Sea();
    private final Sea ahead = new Sea();
    private final Sea kept = new Sea();
    private boolean isKept = false;
    private final Past past = new Past();
    private final Tape tape = new Tape();
    private final SeaText seaText = new SeaText(tape);
    private final LawText lawText = new LawText(tape);
    private final Course course = new Course();
    private final Putting putting = new Putting();
    private final Stall stall = new Stall();
    private final Guess guess = new Guess();
    private final int[] ways = new int[MOST_PART + 1];
    private final int[] comers = new int[CELLS];

    public LastCatch() {
    }

    // ---- the tape and the texts

    public int feed(int a, int b, int c, int d, int e) {
        if (!tape.hasRoom()) {
            return NONE;
        }
        tape.put(a);
        tape.put(b);
        tape.put(c);
        tape.put(d);
        tape.put(e);
        return tape.length;
    }

    public boolean end(int n) {
        if (n < 0 || n > tape.length) {
            return false;
        }
        tape.length = n;
        return true;
    }

    public int waters() throws IllegalArgumentException, UnsupportedOperationException {
        draft.copyFrom(now);
        seaText.read(draft);
        if (now.texts >= MOST_TEXTS) {
            throw new UnsupportedOperationException("there are as many texts as can be");
        }
        draft.texts++;
        now.copyFrom(draft);
        past.forget();
        return now.texts;
    }

    public int law() throws IllegalArgumentException {
        now.law = lawText.read();
        past.forget();
        return now.law.lines;
    }

    public int fault() {
        return tape.wrong;
    }

    // ---- what there is

    public int cell(int cell, int what) throws IndexOutOfBoundsException, NoSuchElementException {
        needCell(cell);
        switch (what) {
            case 0: return now.current[cell];
            case 1: return now.drift(cell);
            case 2: return now.swimmingAt(cell);
            case 3: return now.comesRound(cell) ? 1 : 0;
            default: throw new NoSuchElementException("no such what");
        }
    }

    public int fish(int fish, int what) throws IndexOutOfBoundsException, NoSuchElementException {
        needFish(fish);
        int[] row = now.fish[fish];
        switch (what) {
            case 0: return row[Sea.KIND];
            case 1: return row[Sea.SIZE];
            case 2: return row[Sea.FRESH];
            case 3: return row[Sea.PLACE];
            case 4: return now.cellOf(fish);
            case 5: return row[Sea.ABOARD];
            case 6: return now.turnsBy(fish);
            case 7: return now.price(fish);
            case 8: return caughtIn(fish);
            case 9: return now.maybe(fish);
            default: throw new NoSuchElementException("no such what");
        }
    }

    public int boat(int boat, int what) throws IndexOutOfBoundsException, NoSuchElementException {
        needBoat(boat);
        int[] row = now.boats[boat];
        switch (what) {
            case 0: return row[Sea.AT];
            case 1: return row[Sea.HEADS];
            case 2: return row[Sea.HOLD];
            case 3: return now.aboard(boat);
            default: throw new NoSuchElementException("no such what");
        }
    }

    public int buyer(int buyer, int what) throws IndexOutOfBoundsException, NoSuchElementException {
        needBuyer(buyer);
        int[] row = now.buyers[buyer];
        switch (what) {
            case 0: return row[Sea.WANT];
            case 1: return row[Sea.MONEY];
            case 2: return row[Sea.LEAST];
            case 3: return row[Sea.KEEN];
            case 4: return now.freshestOf(now.mayBuy(buyer));
            case 5: return share(row[Sea.MONEY]);
            default: throw new NoSuchElementException("no such what");
        }
    }

    public int dead(int dead, int what) throws IndexOutOfBoundsException, NoSuchElementException {
        if (dead < 0 || dead >= now.deadCount) {
            throw new IndexOutOfBoundsException("no such dead one");
        }
        switch (what) {
            case 0: return now.dead[dead][Sea.SAID];
            case 1: return now.dead[dead][Sea.BREATH];
            default: throw new NoSuchElementException("no such what");
        }
    }

    // ---- acts

    public int days(int n) throws IllegalArgumentException {
        needWithin(n, 1, MOST_DAYS);
        past.remember(now);
        int bought = 0;
        for (int i = 0; i < n; i++) {
            bought += now.passDay(true);
        }
        return bought;
    }

    public int heads(int boat, int cell) throws IndexOutOfBoundsException {
        needBoat(boat);
        if (cell != NONE) {
            needCell(cell);
        }
        past.remember(now);
        int was = now.boats[boat][Sea.HEADS];
        now.boats[boat][Sea.HEADS] = cell;
        return was;
    }

    public int ice(int n) throws IllegalArgumentException {
        needWithin(n, 1, MOST_OF_THREE_DIGITS);
        past.remember(now);
        now.ice = Math.min(MOST_OF_THREE_DIGITS, now.ice + n);
        return now.ice;
    }

    public int sponge(int fish, int n) throws IndexOutOfBoundsException, IllegalArgumentException, IllegalStateException {
        needFish(fish);
        needWithin(n, 1, MOST_FRESH);
        needOnSlab(fish);
        past.remember(now);
        int[] row = now.fish[fish];
        row[Sea.FRESH] = Math.min(MOST_FRESH, row[Sea.FRESH] + n);
        return row[Sea.FRESH];
    }

    public int pay(int buyer, int n) throws IndexOutOfBoundsException, IllegalArgumentException {
        needBuyer(buyer);
        needWithin(n, 1, MOST_OF_THREE_DIGITS);
        past.remember(now);
        int[] row = now.buyers[buyer];
        row[Sea.MONEY] = Math.min(MOST_OF_THREE_DIGITS, row[Sea.MONEY] + n);
        return row[Sea.MONEY];
    }

    public int tell(int kind, int cell, int size) throws IndexOutOfBoundsException, IllegalArgumentException, IllegalStateException {
        needKind(kind);
        needCell(cell);
        needWithin(size, 1, 9);
        if (now.fishCount >= MOST_FISH) {
            throw new IllegalStateException("there are as many fish as can be");
        }
        past.remember(now);
        return now.addFish(kind, cell, size);
    }

    public int release(int fish) throws IndexOutOfBoundsException, IllegalStateException {
        needFish(fish);
        int[] row = now.fish[fish];
        if (row[Sea.PLACE] == Sea.IN_SEA || row[Sea.PLACE] == Sea.GONE) {
            throw new IllegalStateException("it is neither in a boat nor on the slab");
        }
        past.remember(now);
        int cell = row[Sea.PLACE] == Sea.ON_SLAB ? HARBOUR : now.cellOf(fish);
        now.put(fish, Sea.IN_SEA, cell, NONE);
        return cell;
    }

    public int current(int cell, int n) throws IndexOutOfBoundsException, IllegalArgumentException {
        needCell(cell);
        needWithin(n, 0, STILL);
        past.remember(now);
        int was = now.current[cell];
        now.current[cell] = n;
        return was;
    }

    public int sell(int fish, int buyer) throws IndexOutOfBoundsException, IllegalStateException {
        needFish(fish);
        needBuyer(buyer);
        needOnSlab(fish);
        int price = now.price(fish);
        if (price > now.buyers[buyer][Sea.MONEY]) {
            throw new IllegalStateException("the price is above the money");
        }
        past.remember(now);
        now.sellTo(fish, buyer, price, Log.BY_HAND);
        return price;
    }

    // ---- the sea ahead

    public int where(int fish, int n) throws IndexOutOfBoundsException, IllegalArgumentException {
        needFish(fish);
        needWithin(n, 0, MOST_DAYS);
        lookAhead(n);
        return ahead.fish[fish][Sea.SPOT];
    }

    public int meets(int boat, int fish) throws IndexOutOfBoundsException {
        needBoat(boat);
        needFish(fish);
        return now.meetingOf(boat, fish);
    }

    public int lost() {
        int lost = 0;
        for (int f = 0; f < now.fishCount; f++) {
            if (now.fish[f][Sea.PLACE] == Sea.IN_SEA && !isMet(f)) {
                lost |= 1 << f;
            }
        }
        return lost;
    }

    public int haul(int boat, int n) throws IndexOutOfBoundsException, IllegalArgumentException {
        needBoat(boat);
        needWithin(n, 0, MOST_HAUL_DAYS);
        course.plan(now, boat, n);
        return course.most;
    }

    public int first(int boat, int n) throws IndexOutOfBoundsException, IllegalArgumentException {
        needBoat(boat);
        needWithin(n, 0, MOST_HAUL_DAYS);
        course.plan(now, boat, n);
        return course.firstMove;
    }

    public int eddy() {
        Arrays.fill(comers, 0);
        for (int from = 0; from < CELLS; from++) {
            int seen = 0;
            int at = from;
            for (int i = 0; i < CELLS && (seen >> at & 1) == 0; i++) {
                seen |= 1 << at;
                comers[at]++;
                at = now.drift(at);
            }
        }
        int best = 0;
        for (int c = 1; c < CELLS; c++) {
            if (comers[c] > comers[best]) {
                best = c;
            }
        }
        return best;
    }

    // ---- the dead

    public int whose(int fish) throws IndexOutOfBoundsException {
        if (fish != NONE) {
            needFish(fish);
        }
        putting.plan(now);
        return fish == NONE ? putting.most : putting.to[fish];
    }

    public int parted(int s) throws IllegalArgumentException {
        needWithin(s, 0, MOST_PART);
        Arrays.fill(ways, 0);
        ways[0] = 1;
        for (int d = 0; d < now.deadCount; d++) {
            // from above, so that the lesser sums are still those without this one
            for (int sum = s; sum >= 0; sum--) {
                ways[sum] = waysWith(sum, now.dead[d][Sea.BREATH]);
            }
        }
        return ways[s];
    }

    public int fewest(int s) throws IllegalArgumentException {
        needWithin(s, 0, MOST_PART);
        int best = NONE;
        for (int set = 0; set < 1 << now.deadCount; set++) {
            if (now.breathOf(set) >= s && (best == NONE || Integer.bitCount(set) < Integer.bitCount(best))) {
                best = set;
            }
        }
        return best;
    }

    public int turned(boolean first) throws IllegalArgumentException {
        needRowsOnTape();
        guess.fit();
        if (!first) {
            return guess.fits;
        }
        return guess.fits == 0 ? NONE : guess.fitting[0];
    }

    public int ask() throws IllegalArgumentException {
        needRowsOnTape();
        guess.fit();
        return guess.bestQuestion();
    }

    // ---- the slab and the buyers

    public int sale(int buyer) throws IndexOutOfBoundsException {
        if (buyer != NONE) {
            needBuyer(buyer);
        }
        stall.planSale(now);
        return buyer == NONE ? stall.most : stall.taken[buyer];
    }

    public int without() {
        int without = 0;
        for (int b = 0; b < now.buyerCount; b++) {
            if (now.mayBuy(b) == 0) {
                without |= 1 << b;
            }
        }
        return without;
    }

    public int order(int k) {
        stall.planOrder(now);
        if (k == NONE) {
            return stall.most;
        }
        return k < 0 || k >= Integer.bitCount(now.placed(Sea.ON_SLAB)) ? NONE : stall.taken[k];
    }

    public int chase(int g, int t) throws IllegalArgumentException {
        needWithin(g, 0, MOST_GAP);
        needWithin(t, 0, MOST_TURNS);
        return course.turnsToCatch(g, t);
    }

    public int pairs(int fish) throws IndexOutOfBoundsException {
        if (fish != NONE) {
            needFish(fish);
        }
        stall.planPairs(now);
        return fish == NONE ? stall.most : stall.taken[fish];
    }

    public int rests(int boat, int fish) throws IndexOutOfBoundsException {
        needBoat(boat);
        needFish(fish);
        int size = now.fish[fish][Sea.SIZE];
        int hold = now.boats[boat][Sea.HOLD];
        int rests = 0;
        for (int choice = 0; choice < 4; choice++) {
            boolean skipperStays = skipperHas(choice, size, hold) >= skipperHas(choice ^ 2, size, hold);
            boolean schoolStays = schoolHas(choice, size) >= schoolHas(choice ^ 1, size);
            if (skipperStays && schoolStays) {
                rests |= 1 << choice;
            }
        }
        return rests;
    }

    public int odds(int n) throws IllegalArgumentException {
        needWithin(n, 0, MOST_ODDS_DAYS);
        int odds = 10000;
        for (int i = 0; i < n; i++) {
            for (int b = 0; b < now.buyerCount; b++) {
                odds = odds * (100 - now.buyers[b][Sea.KEEN]) / 100;
            }
        }
        return odds;
    }

    public int freshest() {
        return now.freshestOf(now.placed(Sea.ON_SLAB));
    }

    public int dearest() {
        int best = NONE;
        int bestPrice = NONE;
        for (int f = 0; f < now.fishCount; f++) {
            int price = now.fish[f][Sea.PLACE] == Sea.ON_SLAB ? now.price(f) : NONE;
            if (price > bestPrice) {
                best = f;
                bestPrice = price;
            }
        }
        return best;
    }

    // ---- all the fish

    public int kind(int kind) throws IndexOutOfBoundsException {
        needKind(kind);
        int set = 0;
        for (int f = 0; f < now.fishCount; f++) {
            if (now.fish[f][Sea.KIND] == kind && now.fish[f][Sea.PLACE] != Sea.GONE) {
                set |= 1 << f;
            }
        }
        return set;
    }

    public int twins() {
        int twins = 0;
        for (int f = 0; f < now.fishCount; f++) {
            for (int g = 0; g < f; g++) {
                boolean likeKind = now.fish[f][Sea.KIND] == now.fish[g][Sea.KIND];
                if (likeKind && now.fish[f][Sea.SIZE] == now.fish[g][Sea.SIZE]) {
                    twins++;
                }
            }
        }
        return twins;
    }

    public int slab() {
        return now.placed(Sea.ON_SLAB);
    }

    public int sea() {
        return now.placed(Sea.IN_SEA);
    }

    public int gone() {
        return now.placed(Sea.GONE);
    }

    // ---- what would come

    public int spoils(int n) throws IllegalArgumentException {
        needWithin(n, 0, MOST_DAYS);
        lookAhead(n);
        return ahead.placed(Sea.GONE) & ~now.placed(Sea.GONE);
    }

    public int trial(int n, boolean gone) throws IllegalArgumentException {
        needWithin(n, 0, MOST_DAYS);
        tryDays(n, now.seed);
        return gone ? Integer.bitCount(ahead.placed(Sea.GONE)) : ahead.till;
    }

    public int span(int n, boolean most) throws IllegalArgumentException {
        needWithin(n, 0, MOST_DAYS);
        int least = MOST_TILL;
        int greatest = 0;
        for (int s = 1; s <= SEEDS_OF_SPAN; s++) {
            tryDays(n, s);
            least = Math.min(least, ahead.till);
            greatest = Math.max(greatest, ahead.till);
        }
        return most ? greatest : least;
    }

    // ---- the log, undoing, the image

    public int led(int fish, boolean day) throws IndexOutOfBoundsException {
        needFish(fish);
        int rows = 0;
        int latest = NONE;
        // from the oldest on, so that the latest day stays
        for (int ago = now.log.count - 1; ago >= 0; ago--) {
            if (now.log.told(ago, Log.FISH) == fish) {
                rows++;
                latest = now.log.told(ago, Log.DAY);
            }
        }
        return day ? latest : rows;
    }

    public int log(int ago, int what) throws NoSuchElementException {
        if (what < 0 || what >= Log.WIDTH) {
            throw new NoSuchElementException("no such what");
        }
        return now.log.told(ago, what);
    }

    public int seed(int n) {
        int was = now.seed;
        now.seed = n;
        return was;
    }

    public boolean undo() {
        return past.bringBack(now);
    }

    public void image() {
        kept.copyFrom(now);
        isKept = true;
    }

    public boolean back() {
        if (!isKept) {
            return false;
        }
        now.copyFrom(kept);
        past.forget();
        return true;
    }

    public int count(int what) {
        switch (what) {
            case 0: return now.fishCount;
            case 1: return now.boatCount;
            case 2: return now.buyerCount;
            case 3: return now.deadCount;
            case 4: return now.texts;
            case 5: return now.law.lines;
            case 6: return now.ice;
            case 7: return now.till;
            case 8: return now.day;
            case 9: return now.moneyOfAll();
            case 10: return now.log.count;
            case 11: return past.count;
            default: return NONE;
        }
    }

    // ---- what calls need

    private static void needCell(int cell) {
        if (cell < 0 || cell >= CELLS) {
            throw new IndexOutOfBoundsException("no such cell");
        }
    }

    private static void needKind(int kind) {
        if (kind < 0 || kind >= KINDS) {
            throw new IndexOutOfBoundsException("no such kind");
        }
    }

    private void needFish(int fish) {
        if (fish < 0 || fish >= now.fishCount) {
            throw new IndexOutOfBoundsException("no such fish");
        }
    }

    private void needBoat(int boat) {
        if (boat < 0 || boat >= now.boatCount) {
            throw new IndexOutOfBoundsException("no such boat");
        }
    }

    private void needBuyer(int buyer) {
        if (buyer < 0 || buyer >= now.buyerCount) {
            throw new IndexOutOfBoundsException("no such buyer");
        }
    }

    private static void needWithin(int n, int least, int most) {
        if (n < least || n > most) {
            throw new IllegalArgumentException("no such number");
        }
    }

    private void needOnSlab(int fish) {
        if (now.fish[fish][Sea.PLACE] != Sea.ON_SLAB) {
            throw new IllegalStateException("it is not on the slab");
        }
    }

    private void needRowsOnTape() {
        if (!guess.takeRows(tape)) {
            throw new IllegalArgumentException("the tape has no rows of day and fresh");
        }
    }

    // ---- helpers

    private void lookAhead(int n) {
        ahead.copyFrom(now);
        for (int i = 0; i < n; i++) {
            ahead.passDay(false);
        }
    }

    private void tryDays(int n, int seed) {
        ahead.copyFrom(now);
        ahead.seed = seed;
        for (int i = 0; i < n; i++) {
            ahead.passDay(true);
        }
    }

    private int caughtIn(int fish) {
        ahead.copyFrom(now);
        for (int n = 0; n <= MOST_DAYS; n++) {
            if (ahead.fish[fish][Sea.PLACE] != Sea.IN_SEA) {
                return n;
            }
            ahead.passDay(false);
        }
        return NONE;
    }

    private boolean isMet(int fish) {
        for (int b = 0; b < now.boatCount; b++) {
            if (now.meetingOf(b, fish) != NONE) {
                return true;
            }
        }
        return false;
    }

    private int share(int money) {
        int all = now.moneyOfAll();
        return all == 0 ? 0 : money * 100 / all;
    }

    private int waysWith(int sum, int breath) {
        int with = 0;
        for (int part = 0; part <= breath && part <= sum; part++) {
            with += ways[sum - part];
        }
        return with;
    }

    private static int skipperHas(int choice, int size, int hold) {
        switch (choice) {
            case 0: return size;
            case 1: return -hold;
            case 2: return 1;
            default: return 0;
        }
    }

    private static int schoolHas(int choice, int size) {
        switch (choice) {
            case 0: return -size;
            case 1: return 1;
            case 2: return 2;
            default: return 0;
        }
    }

    // ---- the state

    /** All that an image keeps: cells, fish, boats, buyers, the dead, the law, the log and the numbers. */
    static final class Sea {
        static final int KIND = 0;
        static final int SIZE = 1;
        static final int FRESH = 2;
        static final int PLACE = 3;
        static final int SPOT = 4;
        static final int ABOARD = 5;
        static final int FISH_WIDTH = 6;

        static final int IN_SEA = 0;
        static final int IN_BOAT = 1;
        static final int ON_SLAB = 2;
        static final int GONE = 3;

        static final int AT = 0;
        static final int HEADS = 1;
        static final int HOLD = 2;
        static final int BOAT_WIDTH = 3;

        static final int WANT = 0;
        static final int MONEY = 1;
        static final int LEAST = 2;
        static final int KEEN = 3;
        static final int BUYER_WIDTH = 4;

        static final int SAID = 0;
        static final int BREATH = 1;
        static final int DEAD_WIDTH = 2;

        final int[] current = new int[CELLS];
        final int[][] fish = new int[MOST_FISH][FISH_WIDTH];
        final int[][] boats = new int[MOST_BOATS][BOAT_WIDTH];
        final int[][] buyers = new int[MOST_BUYERS][BUYER_WIDTH];
        final int[][] dead = new int[MOST_DEAD][DEAD_WIDTH];
        final Log log = new Log();
        final int[] turning = new int[MOST_FISH];
        int fishCount = 0;
        int boatCount = 0;
        int buyerCount = 0;
        int deadCount = 0;
        int texts = 0;
        int ice = 10;
        int till = 0;
        int day = 0;
        int seed = 1;
        Law law = new Law();

        Sea() {
            Arrays.fill(current, STILL);
        }

        void copyFrom(Sea other) {
            System.arraycopy(other.current, 0, current, 0, CELLS);
            copyRows(other.fish, fish);
            copyRows(other.boats, boats);
            copyRows(other.buyers, buyers);
            copyRows(other.dead, dead);
            log.copyFrom(other.log);
            fishCount = other.fishCount;
            boatCount = other.boatCount;
            buyerCount = other.buyerCount;
            deadCount = other.deadCount;
            texts = other.texts;
            ice = other.ice;
            till = other.till;
            day = other.day;
            seed = other.seed;
            law = other.law;
        }

        private static void copyRows(int[][] from, int[][] to) {
            for (int i = 0; i < from.length && i < to.length; i++) {
                System.arraycopy(from[i], 0, to[i], 0, Math.min(from[i].length, to[i].length));
            }
        }

        int addFish(int kind, int cell, int size) {
            int f = fishCount;
            if (f >= MOST_FISH) {
                return NONE;
            }
            fish[f][KIND] = kind;
            fish[f][SIZE] = size;
            fish[f][FRESH] = TOLD_FRESH;
            put(f, IN_SEA, cell, NONE);
            fishCount++;
            return f;
        }

        void put(int f, int place, int cell, int boat) {
            fish[f][PLACE] = place;
            fish[f][SPOT] = cell;
            fish[f][ABOARD] = boat;
        }

        /** The cell beside by way, the cell itself for no way, NONE where the sea ends. */
        static int beside(int cell, int way) {
            int x = cell % ROW;
            switch (way) {
                case 0: return x > 0 ? cell - 1 : NONE;
                case 1: return x < ROW - 1 ? cell + 1 : NONE;
                case 2: return cell >= ROW ? cell - ROW : NONE;
                case 3: return cell < CELLS - ROW ? cell + ROW : NONE;
                default: return cell;
            }
        }

        static int distance(int from, int to) {
            return Math.abs(from % ROW - to % ROW) + Math.abs(from / ROW - to / ROW);
        }

        int drift(int cell) {
            if (cell < 0 || cell >= CELLS) {
                return cell;
            }
            int to = beside(cell, current[cell]);
            return to == NONE ? cell : to;
        }

        boolean comesRound(int cell) {
            int at = cell;
            for (int i = 0; i < CELLS; i++) {
                at = drift(at);
                if (at == cell) {
                    return true;
                }
            }
            return false;
        }

        int swimmingAt(int cell) {
            int set = 0;
            for (int f = 0; f < fishCount; f++) {
                if (fish[f][PLACE] == IN_SEA && fish[f][SPOT] == cell) {
                    set |= 1 << f;
                }
            }
            return set;
        }

        int placed(int place) {
            int set = 0;
            for (int f = 0; f < fishCount; f++) {
                if (fish[f][PLACE] == place) {
                    set |= 1 << f;
                }
            }
            return set;
        }

        int aboard(int boat) {
            int set = 0;
            for (int f = 0; f < fishCount; f++) {
                if (fish[f][PLACE] == IN_BOAT && fish[f][ABOARD] == boat) {
                    set |= 1 << f;
                }
            }
            return set;
        }

        int cellOf(int f) {
            int boat = fish[f][ABOARD];
            if (fish[f][PLACE] == IN_BOAT && boat >= 0 && boat < boatCount) {
                return boats[boat][AT];
            }
            return fish[f][SPOT];
        }

        int moneyOfAll() {
            int all = 0;
            for (int b = 0; b < buyerCount; b++) {
                all += buyers[b][MONEY];
            }
            return all;
        }

        int breathOf(int set) {
            int sum = 0;
            for (int d = 0; d < deadCount; d++) {
                if ((set >> d & 1) != 0) {
                    sum += dead[d][BREATH];
                }
            }
            return sum;
        }

        boolean saidKindOf(int d, int f) {
            return (dead[d][SAID] >> fish[f][KIND] & 1) != 0;
        }

        int maybe(int f) {
            int set = 0;
            for (int d = 0; d < deadCount; d++) {
                if (saidKindOf(d, f) && dead[d][BREATH] >= fish[f][SIZE]) {
                    set |= 1 << d;
                }
            }
            return set;
        }

        int turnsBy(int f) {
            int lying = Integer.bitCount(placed(ON_SLAB));
            int more = law.sum(Law.TURN, this, f, lying);
            int less = law.sum(Law.KEEP, this, f, lying);
            return Math.max(0, 5 + more - less);
        }

        int price(int f) {
            int lying = Integer.bitCount(placed(ON_SLAB));
            return fish[f][SIZE] * 2 + fish[f][FRESH] / 10 + law.sum(Law.DEAR, this, f, lying);
        }

        int mayBuy(int b) {
            int set = 0;
            for (int f = 0; f < fishCount; f++) {
                boolean wanted = fish[f][PLACE] == ON_SLAB && fish[f][KIND] == buyers[b][WANT];
                if (wanted && fish[f][FRESH] >= buyers[b][LEAST] && price(f) <= buyers[b][MONEY]) {
                    set |= 1 << f;
                }
            }
            return set;
        }

        int freshestOf(int set) {
            int best = NONE;
            for (int f = 0; f < fishCount; f++) {
                if ((set >> f & 1) != 0 && (best == NONE || fish[f][FRESH] > fish[best][FRESH])) {
                    best = f;
                }
            }
            return best;
        }

        int leastOf(int set) {
            for (int f = 0; f < fishCount; f++) {
                if ((set >> f & 1) != 0) {
                    return f;
                }
            }
            return 0;
        }

        int sizesOf(int set) {
            int sum = 0;
            for (int f = 0; f < fishCount; f++) {
                if ((set >> f & 1) != 0) {
                    sum += fish[f][SIZE];
                }
            }
            return sum;
        }

        int meetingOf(int boat, int f) {
            if (fish[f][PLACE] != IN_SEA) {
                return NONE;
            }
            int at = fish[f][SPOT];
            for (int n = 0; n <= MOST_DAYS; n++) {
                if (distance(boats[boat][AT], at) <= n) {
                    return n;
                }
                at = drift(at);
            }
            return NONE;
        }

        /** A day more; how many fish were bought in it. */
        int passDay(boolean buying) {
            for (int f = 0; f < fishCount; f++) {
                if (fish[f][PLACE] == IN_SEA) {
                    fish[f][SPOT] = drift(fish[f][SPOT]);
                }
            }
            for (int b = 0; b < boatCount; b++) {
                sail(b);
                fill(b);
                unload(b);
            }
            turnAll();
            ice = Math.max(0, ice - 1);
            int bought = buying ? trade() : 0;
            day = Math.min(MOST_DAY, day + 1);
            return bought;
        }

        private void sail(int b) {
            int to = boats[b][HEADS];
            if (to == NONE) {
                return;
            }
            int at = boats[b][AT];
            if (at % ROW != to % ROW) {
                at += at % ROW < to % ROW ? 1 : -1;
            } else if (at != to) {
                at += at < to ? ROW : -ROW;
            }
            boats[b][AT] = at;
            if (at == to) {
                boats[b][HEADS] = NONE;
            }
        }

        private void fill(int b) {
            int room = boats[b][HOLD] - Integer.bitCount(aboard(b));
            for (int f = 0; f < fishCount && room > 0; f++) {
                if (fish[f][PLACE] == IN_SEA && fish[f][SPOT] == boats[b][AT]) {
                    put(f, IN_BOAT, NONE, b);
                    log.add(day, f, Log.CAUGHT, b, fish[f][FRESH]);
                    room--;
                }
            }
        }

        private void unload(int b) {
            if (boats[b][AT] != HARBOUR) {
                return;
            }
            for (int f = 0; f < fishCount; f++) {
                if (fish[f][PLACE] == IN_BOAT && fish[f][ABOARD] == b) {
                    put(f, ON_SLAB, NONE, NONE);
                }
            }
        }

        private void turnAll() {
            // all that turn do so by the sea as it is ahead of the first of them
            for (int f = 0; f < fishCount; f++) {
                turning[f] = isDead(f) ? turnsBy(f) : 0;
            }
            for (int f = 0; f < fishCount; f++) {
                if (isDead(f)) {
                    turn(f);
                }
            }
        }

        private boolean isDead(int f) {
            return fish[f][PLACE] == IN_BOAT || fish[f][PLACE] == ON_SLAB;
        }

        private void turn(int f) {
            fish[f][FRESH] = Math.max(0, fish[f][FRESH] - turning[f]);
            if (fish[f][FRESH] == 0) {
                put(f, GONE, NONE, NONE);
                log.add(day, f, Log.TURNED, NONE, 0);
            }
        }

        private int trade() {
            int bought = 0;
            for (int b = 0; b < buyerCount; b++) {
                boolean moved = draw() % 100 < buyers[b][KEEN];
                int f = moved ? freshestOf(mayBuy(b)) : NONE;
                if (f != NONE) {
                    sellTo(f, b, price(f), Log.BOUGHT);
                    bought++;
                }
            }
            return bought;
        }

        void sellTo(int f, int b, int price, int how) {
            put(f, GONE, NONE, NONE);
            buyers[b][MONEY] -= price;
            till = Math.min(MOST_TILL, till + price);
            log.add(day, f, how, b, fish[f][FRESH]);
        }

        private int draw() {
            seed = 1103515245 * seed + 12345;
            return seed >>> 16 & 0x7fff;
        }
    }

    /** The latest rows of what came about; the oldest gives way. */
    static final class Log {
        static final int CAUGHT = 0;
        static final int TURNED = 1;
        static final int BOUGHT = 2;
        static final int BY_HAND = 3;

        static final int DAY = 0;
        static final int FISH = 1;
        static final int WIDTH = 5;
        static final int ROWS = 60;

        final int[] rows = new int[ROWS * WIDTH];
        int count = 0;
        int next = 0;

        void add(int day, int fish, int how, int who, int fresh) {
            int at = next * WIDTH;
            if (at < 0 || at + WIDTH > rows.length) {
                return;
            }
            rows[at] = day;
            rows[at + 1] = fish;
            rows[at + 2] = how;
            rows[at + 3] = who;
            rows[at + 4] = fresh;
            next = (next + 1) % ROWS;
            count = Math.min(ROWS, count + 1);
        }

        int told(int ago, int what) {
            if (ago < 0 || ago >= count || what < 0 || what >= WIDTH) {
                return NO_ROW;
            }
            return rows[(next + ROWS - 1 - ago) % ROWS * WIDTH + what];
        }

        void copyFrom(Log other) {
            System.arraycopy(other.rows, 0, rows, 0, rows.length);
            count = other.count;
            next = other.next;
        }
    }

    /** The latest acts' seas as they were ahead of them. */
    static final class Past {
        static final int MOST = 12;

        final Sea[] seas = new Sea[MOST];
        int count = 0;
        int next = 0;

        Past() {
            for (int i = 0; i < MOST; i++) {
                seas[i] = new Sea();
            }
        }

        void forget() {
            count = 0;
        }

        void remember(Sea sea) {
            Sea place = seas[next];
            if (place != null) {
                place.copyFrom(sea);
                next = (next + 1) % MOST;
                count = Math.min(MOST, count + 1);
            }
        }

        boolean bringBack(Sea sea) {
            int latest = (next + MOST - 1) % MOST;
            Sea place = seas[latest];
            if (count == 0 || place == null) {
                return false;
            }
            count--;
            next = latest;
            sea.copyFrom(place);
            return true;
        }
    }

    // ---- the law

    /** A law that was read: its lines, and their conditions as steps of a stack. */
    static final class Law {
        static final int KEEP = 0;
        static final int TURN = 1;
        static final int DEAR = 2;

        // a step of 0 or more is a number
        static final int FISH = -1;
        static final int KIND = -2;
        static final int SIZE = -3;
        static final int FRESH = -4;
        static final int ICE = -5;
        static final int LYING = -6;
        static final int DAY = -7;
        static final int ICED = -8;
        static final int SLAB = -9;
        static final int BIG = -10;
        static final int NOT = -11;
        static final int ADD = -12;
        static final int LESS = -13;
        static final int MORE = -14;
        static final int AND = -15;
        static final int OR = -16;
        static final int NO_PART = -17;

        // two pending for each of seven depths, and three for a sum
        static final int STACK = 32;

        final int lines;
        final int[] sorts;
        final int[] amounts;
        final int[] begins;
        final int[] steps;
        final int[] stack = new int[STACK];

        /** No law. */
        Law() {
            lines = NONE;
            sorts = new int[0];
            amounts = new int[0];
            begins = new int[1];
            steps = new int[0];
        }

        Law(LawText text) {
            lines = text.lines;
            sorts = Arrays.copyOf(text.sorts, text.lines);
            amounts = Arrays.copyOf(text.amounts, text.lines);
            begins = Arrays.copyOf(text.begins, text.lines + 1);
            steps = Arrays.copyOf(text.steps, text.size);
        }

        int sum(int sort, Sea sea, int f, int lying) {
            int sum = 0;
            for (int n = 0; n < lines; n++) {
                if (sorts[n] == sort && holds(n, sea, f, lying)) {
                    sum += amounts[n];
                }
            }
            return sum;
        }

        private boolean holds(int line, Sea sea, int f, int lying) {
            int top = 0;
            for (int i = begins[line]; i < begins[line + 1]; i++) {
                int step = steps[i];
                int right = step <= ADD && top > 0 ? stack[--top] : 0;
                int left = step <= NOT && top > 0 ? stack[--top] : 0;
                int value;
                switch (step) {
                    case FISH: value = f; break;
                    case KIND: value = sea.fish[f][Sea.KIND]; break;
                    case SIZE: value = sea.fish[f][Sea.SIZE]; break;
                    case FRESH: value = sea.fish[f][Sea.FRESH]; break;
                    case ICE: value = sea.ice; break;
                    case LYING: value = lying; break;
                    case DAY: value = sea.day % 100; break;
                    case ICED: value = sea.ice > 0 ? 1 : 0; break;
                    case SLAB: value = sea.fish[f][Sea.PLACE] == Sea.ON_SLAB ? 1 : 0; break;
                    case BIG: value = sea.fish[f][Sea.SIZE] >= 7 ? 1 : 0; break;
                    case NOT: value = 1 - left; break;
                    case ADD: value = left + right; break;
                    case LESS: value = left < right ? 1 : 0; break;
                    case MORE: value = left > right ? 1 : 0; break;
                    case AND: value = left & right; break;
                    case OR: value = left | right; break;
                    default: value = step; break;
                }
                if (top < STACK) {
                    stack[top++] = value;
                }
            }
            return top == 0 || stack[0] != 0;
        }
    }

    // ---- the texts

    /** The tape, and how a text on it is read word by word; one word ahead is known. */
    static final class Tape {
        static final int MOST = 400;
        static final int FED = 20;

        static final int END = 0;
        static final int WORD = 1;
        static final int NUMBER = 2;
        static final int SIGN = 3;

        final byte[] bytes = new byte[MOST];
        int length = 0;
        int wrong = NONE;
        int textLength = 0;
        int sort = END;
        int begin = 0;
        int behind = 0;

        boolean hasRoom() {
            return length + FED <= MOST;
        }

        void put(int number) {
            for (int shift = 24; shift >= 0; shift -= 8) {
                if (length < MOST) {
                    bytes[length++] = (byte) (number >> shift);
                }
            }
        }

        void startText() {
            textLength = length;
            length = 0;
            wrong = NONE;
            behind = 0;
            step();
        }

        void step() {
            begin = behind;
            while (begin < textLength && bytes[begin] == ' ') {
                begin++;
            }
            behind = begin;
            if (begin >= textLength) {
                sort = END;
                return;
            }
            sort = sortOf(bytes[begin]);
            behind++;
            while (sort != SIGN && behind < textLength && sortOf(bytes[behind]) == sort) {
                behind++;
            }
        }

        private static int sortOf(int b) {
            if (b >= 'a' && b <= 'z') {
                return WORD;
            }
            return b >= '0' && b <= '9' ? NUMBER : SIGN;
        }

        void refuse() {
            wrong = begin;
            throw new IllegalArgumentException("the text is wrong");
        }

        boolean isWord(String word) {
            if (sort != WORD || behind - begin != word.length()) {
                return false;
            }
            for (int i = 0; i < word.length(); i++) {
                if (bytes[begin + i] != word.charAt(i)) {
                    return false;
                }
            }
            return true;
        }

        boolean isSign(char sign) {
            return sort == SIGN && bytes[begin] == sign;
        }

        boolean takeWord(String word) {
            boolean is = isWord(word);
            if (is) {
                step();
            }
            return is;
        }

        boolean takeSign(char sign) {
            boolean is = isSign(sign);
            if (is) {
                step();
            }
            return is;
        }

        void needWord(String word) {
            if (!takeWord(word)) {
                refuse();
            }
        }

        void needSign(char sign) {
            if (!takeSign(sign)) {
                refuse();
            }
        }

        int number(int least, int most) {
            if (sort != NUMBER || behind - begin > 3) {
                refuse();
            }
            int value = 0;
            for (int i = begin; i < behind; i++) {
                value = value * 10 + bytes[i] - '0';
            }
            if (value < least || value > most) {
                refuse();
            }
            step();
            return value;
        }

        /** Whether another line comes; none may when there are as many as can be. */
        boolean hasNextLine(int lines, int most) {
            if (lines == 0) {
                return sort != END;
            }
            if (sort == END) {
                return false;
            }
            if (!takeSign(';') || lines >= most) {
                refuse();
            }
            return true;
        }
    }

    /** Reads a text of the sea into a sea that is thrown away if the text is wrong. */
    static final class SeaText {
        static final int MOST_LINES = 14;

        final Tape tape;

        SeaText(Tape tape) {
            this.tape = tape;
        }

        void read(Sea sea) {
            tape.startText();
            for (int lines = 0; lines <= MOST_LINES && tape.hasNextLine(lines, MOST_LINES); lines++) {
                readLine(sea);
            }
        }

        private void readLine(Sea sea) {
            if (tape.isWord("current")) {
                readCurrent(sea);
            } else if (tape.isWord("fish") && sea.fishCount < MOST_FISH) {
                readFish(sea);
            } else if (tape.isWord("boat") && sea.boatCount < MOST_BOATS) {
                readBoat(sea);
            } else if (tape.isWord("buyer") && sea.buyerCount < MOST_BUYERS) {
                readBuyer(sea);
            } else if (tape.isWord("dead") && sea.deadCount < MOST_DEAD) {
                readDead(sea);
            } else if (tape.takeWord("ice")) {
                sea.ice = tape.number(0, MOST_OF_THREE_DIGITS);
            } else if (tape.takeWord("day")) {
                sea.day = tape.number(0, MOST_OF_THREE_DIGITS);
            } else {
                tape.refuse();
            }
        }

        private void readCurrent(Sea sea) {
            tape.step();
            int cell = tape.number(0, CELLS - 1);
            sea.current[cell] = needWay();
            for (cell++; cell <= CELLS && tape.sort == Tape.WORD; cell++) {
                if (cell == CELLS) {
                    tape.refuse();
                } else {
                    sea.current[cell] = needWay();
                }
            }
        }

        private int needWay() {
            for (int way = 0; way <= STILL; way++) {
                if (tape.takeWord(wayWord(way))) {
                    return way;
                }
            }
            tape.refuse();
            return STILL;
        }

        private static String wayWord(int way) {
            switch (way) {
                case 0: return "left";
                case 1: return "right";
                case 2: return "up";
                case 3: return "down";
                default: return "still";
            }
        }

        private int needKindWord() {
            for (int kind = 0; kind < KINDS; kind++) {
                if (tape.takeWord(kindWord(kind))) {
                    return kind;
                }
            }
            tape.refuse();
            return NONE;
        }

        private static String kindWord(int kind) {
            switch (kind) {
                case 0: return "tell";
                case 1: return "god";
                case 2: return "horse";
                default: return "saying";
            }
        }

        private int takeNumberOf(String word, int least, int most, int otherwise) {
            return tape.takeWord(word) ? tape.number(least, most) : otherwise;
        }

        private void readFish(Sea sea) {
            tape.step();
            int kind = needKindWord();
            tape.needWord("at");
            int cell = tape.number(0, CELLS - 1);
            tape.needWord("size");
            int size = tape.number(1, 9);
            int fresh = takeNumberOf("fresh", 0, MOST_FRESH, TOLD_FRESH);
            int f = sea.addFish(kind, cell, size);
            if (f != NONE) {
                sea.fish[f][Sea.FRESH] = fresh;
            }
        }

        private void readBoat(Sea sea) {
            tape.step();
            int[] row = sea.boats[sea.boatCount];
            tape.needWord("hold");
            row[Sea.HOLD] = tape.number(1, 9);
            row[Sea.AT] = takeNumberOf("at", 0, CELLS - 1, HARBOUR);
            row[Sea.HEADS] = takeNumberOf("heads", 0, CELLS - 1, NONE);
            sea.boatCount++;
        }

        private void readBuyer(Sea sea) {
            tape.step();
            int[] row = sea.buyers[sea.buyerCount];
            row[Sea.WANT] = needKindWord();
            tape.needWord("money");
            row[Sea.MONEY] = tape.number(0, MOST_OF_THREE_DIGITS);
            row[Sea.LEAST] = takeNumberOf("least", 0, MOST_FRESH, 0);
            row[Sea.KEEN] = takeNumberOf("keen", 0, 100, 50);
            sea.buyerCount++;
        }

        private void readDead(Sea sea) {
            tape.step();
            int[] row = sea.dead[sea.deadCount];
            row[Sea.SAID] = 1 << needKindWord();
            for (int n = 1; n < KINDS; n++) {
                row[Sea.SAID] |= takeOtherKind(row[Sea.SAID]);
            }
            tape.needWord("breath");
            row[Sea.BREATH] = tape.number(0, MOST_PART);
            sea.deadCount++;
        }

        private int takeOtherKind(int said) {
            for (int kind = 0; kind < KINDS; kind++) {
                if ((said >> kind & 1) == 0 && tape.takeWord(kindWord(kind))) {
                    return 1 << kind;
                }
            }
            return 0;
        }
    }

    /** Reads a text of the law. */
    static final class LawText {
        static final int MOST_LINES = 12;
        static final int MOST_DEPTH = 6;

        final Tape tape;
        final int[] sorts = new int[MOST_LINES];
        final int[] amounts = new int[MOST_LINES];
        final int[] begins = new int[MOST_LINES + 1];
        final int[] steps = new int[Tape.MOST];
        int lines = 0;
        int size = 0;

        LawText(Tape tape) {
            this.tape = tape;
        }

        Law read() {
            tape.startText();
            size = 0;
            for (lines = 0; lines <= MOST_LINES && tape.hasNextLine(lines, MOST_LINES); lines++) {
                if (lines < MOST_LINES) {
                    sorts[lines] = needSort();
                    amounts[lines] = tape.number(0, 99);
                    if (tape.takeWord("if")) {
                        readCondition(0);
                    }
                    begins[lines + 1] = size;
                }
            }
            return new Law(this);
        }

        private int needSort() {
            if (tape.takeWord("keep")) {
                return Law.KEEP;
            }
            if (tape.takeWord("turn")) {
                return Law.TURN;
            }
            tape.needWord("dear");
            return Law.DEAR;
        }

        private void emit(int step) {
            if (size < steps.length) {
                steps[size++] = step;
            }
        }

        private void readCondition(int depth) {
            for (int n = 0; n < Tape.MOST && (n == 0 || tape.takeWord("or")); n++) {
                for (int m = 0; m < Tape.MOST && (m == 0 || tape.takeWord("and")); m++) {
                    readAtom(depth);
                    if (m > 0) {
                        emit(Law.AND);
                    }
                }
                if (n > 0) {
                    emit(Law.OR);
                }
            }
        }

        private void readAtom(int depth) {
            boolean deeper = tape.isWord("not") || tape.isSign('(');
            if (deeper && depth >= MOST_DEPTH) {
                tape.refuse();
            } else if (tape.takeWord("not")) {
                readAtom(depth + 1);
                emit(Law.NOT);
            } else if (tape.takeSign('(')) {
                readCondition(depth + 1);
                tape.needSign(')');
            } else if (tape.takeWord("iced")) {
                emit(Law.ICED);
            } else if (tape.takeWord("slab")) {
                emit(Law.SLAB);
            } else if (tape.takeWord("big")) {
                emit(Law.BIG);
            } else {
                readSum();
                boolean less = tape.takeSign('<');
                if (!less) {
                    tape.needSign('>');
                }
                readSum();
                emit(less ? Law.LESS : Law.MORE);
            }
        }

        private void readSum() {
            for (int n = 0; n < Tape.MOST && (n == 0 || tape.takeSign('+')); n++) {
                int part = partAhead();
                if (part == Law.NO_PART) {
                    part = tape.number(0, MOST_OF_THREE_DIGITS);
                } else {
                    tape.step();
                }
                emit(part);
                if (n > 0) {
                    emit(Law.ADD);
                }
            }
        }

        private int partAhead() {
            for (int part = Law.FISH; part >= Law.DAY; part--) {
                if (tape.isWord(partWord(part))) {
                    return part;
                }
            }
            return Law.NO_PART;
        }

        private static String partWord(int part) {
            switch (part) {
                case Law.FISH: return "fish";
                case Law.KIND: return "kind";
                case Law.SIZE: return "size";
                case Law.FRESH: return "fresh";
                case Law.ICE: return "ice";
                case Law.LYING: return "lying";
                default: return "day";
            }
        }
    }

    // ---- what is best

    /** The best way of a boat, and of a skipper and a school that he chases. */
    static final class Course {
        static final int NEVER = 99;
        static final int GAPS = MOST_GAP + MOST_TURNS + 2;

        final int[][] drifted = new int[MOST_HAUL_DAYS + 1][MOST_FISH];
        final int[] sizes = new int[MOST_FISH];
        int swimming = 0;
        int days = 0;
        int room = 0;
        int most = 0;
        int firstMove = NONE;

        // turns by the gap, by whether the school last went 2 and by whether he last went 3
        int[] before = new int[GAPS * 4];
        int[] after = new int[GAPS * 4];

        void plan(Sea sea, int boat, int n) {
            days = Math.min(n, MOST_HAUL_DAYS);
            room = sea.boats[boat][Sea.HOLD] - Integer.bitCount(sea.aboard(boat));
            swimming = sea.placed(Sea.IN_SEA);
            for (int f = 0; f < sea.fishCount; f++) {
                sizes[f] = sea.fish[f][Sea.SIZE];
                drifted[0][f] = sea.fish[f][Sea.SPOT];
                for (int d = 1; d <= MOST_HAUL_DAYS; d++) {
                    drifted[d][f] = sea.drift(drifted[d - 1][f]);
                }
            }
            firstMove = NONE;
            most = mostFrom(0, sea.boats[boat][Sea.AT], 0);
        }

        private int mostFrom(int day, int cell, int caught) {
            if (day >= days) {
                return 0;
            }
            int best = NONE;
            for (int move = 0; move <= STILL; move++) {
                int to = Sea.beside(cell, move);
                int sum = to == NONE ? NONE : mostBy(day + 1, to, caught);
                if (sum > best) {
                    best = sum;
                    if (day == 0) {
                        firstMove = move;
                    }
                }
            }
            return best;
        }

        private int mostBy(int day, int cell, int caught) {
            int taken = catchAt(day, cell, caught);
            return sizesOf(taken) + mostFrom(day, cell, caught | taken);
        }

        private int catchAt(int day, int cell, int caught) {
            int left = room - Integer.bitCount(caught);
            int free = swimming & ~caught;
            int taken = 0;
            for (int f = 0; f < MOST_FISH && left > 0; f++) {
                if ((free >> f & 1) != 0 && drifted[day][f] == cell) {
                    taken |= 1 << f;
                    left--;
                }
            }
            return taken;
        }

        private int sizesOf(int set) {
            int sum = 0;
            for (int f = 0; f < MOST_FISH && set >> f != 0; f++) {
                if ((set >> f & 1) != 0) {
                    sum += sizes[f];
                }
            }
            return sum;
        }

        int turnsToCatch(int gap, int turns) {
            if (gap <= 0) {
                return 0;
            }
            Arrays.fill(before, NEVER);
            for (int t = 1; t <= turns; t++) {
                // the gap grows by 1 a turn at most, so wider ones are never looked at
                for (int g = 1; g <= gap + turns - t && g < GAPS; g++) {
                    for (int last = 0; last < 4; last++) {
                        after[g * 4 + last] = schoolGoes(g, last);
                    }
                }
                int[] spare = before;
                before = after;
                after = spare;
            }
            int best = gap < GAPS ? before[gap * 4] : NEVER;
            return best > turns ? NONE : best;
        }

        private int schoolGoes(int gap, int last) {
            int slow = skipperGoes(gap + 1, last & 1);
            return (last & 2) != 0 ? slow : Math.max(slow, skipperGoes(gap + 2, last & 1 | 2));
        }

        private int skipperGoes(int gap, int last) {
            int slow = turnsFrom(gap - 1, last & 2);
            return (last & 1) != 0 ? slow : Math.min(slow, turnsFrom(gap - 3, last & 2 | 1));
        }

        private int turnsFrom(int gap, int last) {
            if (gap <= 0) {
                return 1;
            }
            return gap < GAPS ? Math.min(NEVER, 1 + before[gap * 4 + last]) : NEVER;
        }
    }

    /** How fish are put to the dead so that most is told. */
    static final class Putting {
        final int[] to = new int[MOST_FISH];
        final int[] room = new int[MOST_DEAD];
        final int[] fitting = new int[MOST_DEAD];
        final int[] sizes = new int[SETS_OF_FISH];
        final boolean[] whole = new boolean[SETS_OF_FISH];
        int most = 0;

        void plan(Sea sea) {
            int live = ((1 << sea.fishCount) - 1) & ~sea.placed(Sea.GONE);
            addSizes(sea);
            for (int d = 0; d < sea.deadCount; d++) {
                room[d] = sea.dead[d][Sea.BREATH];
                fitting[d] = fittingTo(sea, d) & live;
            }
            most = mostOf(live, sea.deadCount);
            int left = most;
            int rest = live;
            for (int f = 0; f < sea.fishCount; f++) {
                rest &= ~(1 << f);
                to[f] = (live >> f & 1) == 0 ? NONE : firstFor(f, rest, left, sea.deadCount);
                if (to[f] != NONE) {
                    left--;
                }
            }
        }

        private void addSizes(Sea sea) {
            for (int set = 1; set < 1 << sea.fishCount; set++) {
                sizes[set] = sea.sizesOf(set);
            }
        }

        private static int fittingTo(Sea sea, int d) {
            int set = 0;
            for (int f = 0; f < sea.fishCount; f++) {
                if (sea.saidKindOf(d, f)) {
                    set |= 1 << f;
                }
            }
            return set;
        }

        /** The first of the dead with whom as many as are left can still be put; takes his room. */
        private int firstFor(int f, int rest, int left, int dead) {
            int size = sizes[1 << f];
            for (int d = 0; d < dead; d++) {
                if ((fitting[d] >> f & 1) != 0 && room[d] >= size) {
                    room[d] -= size;
                    if (1 + mostOf(rest, dead) == left) {
                        return d;
                    }
                    room[d] += size;
                }
            }
            return NONE;
        }

        /** How many of rest can be put into the rooms as they are. */
        private int mostOf(int rest, int dead) {
            for (int set = rest; set > 0; set = (set - 1) & rest) {
                whole[set] = false;
            }
            whole[0] = true;
            for (int d = 0; d < dead; d++) {
                // from the greatest set down, so that lesser ones are still those without this one
                for (int set = rest; set > 0; set = (set - 1) & rest) {
                    whole[set] = whole[set] || completes(set, d);
                }
            }
            int best = 0;
            for (int set = rest; set > 0; set = (set - 1) & rest) {
                if (whole[set]) {
                    best = Math.max(best, Integer.bitCount(set));
                }
            }
            return best;
        }

        private boolean completes(int set, int d) {
            int fit = set & fitting[d];
            for (int part = fit; part > 0; part = (part - 1) & fit) {
                if (sizes[part] <= room[d] && whole[set & ~part]) {
                    return true;
                }
            }
            return false;
        }
    }

    /** What is put to buyers, sold in an order, or put two by two, so that it is the most. */
    static final class Stall {
        final int[][] best = new int[MOST_BUYERS + 1][SETS_OF_FISH];
        final int[] worth = new int[MOST_FISH];
        final int[] turns = new int[MOST_FISH];
        final int[] taken = new int[MOST_FISH];
        int most = 0;

        void planSale(Sea sea) {
            int sets = 1 << sea.fishCount;
            int buyers = sea.buyerCount;
            for (int f = 0; f < sea.fishCount; f++) {
                worth[f] = sea.price(f);
            }
            Arrays.fill(best[buyers], 0);
            for (int b = buyers - 1; b >= 0; b--) {
                int may = sea.mayBuy(b);
                for (int used = 0; used < sets; used++) {
                    best[b][used] = bestSale(b, used, may & ~used);
                }
            }
            most = best[0][0];
            int used = 0;
            for (int b = 0; b < buyers; b++) {
                taken[b] = firstSale(b, used, sea.mayBuy(b) & ~used);
                used |= taken[b] == NONE ? 0 : 1 << taken[b];
            }
        }

        private int bestSale(int b, int used, int may) {
            int sum = best[b + 1][used];
            for (int f = 0; f < MOST_FISH; f++) {
                if ((may >> f & 1) != 0) {
                    sum = Math.max(sum, worth[f] + best[b + 1][used | 1 << f]);
                }
            }
            return sum;
        }

        private int firstSale(int b, int used, int may) {
            if (best[b + 1][used] == best[b][used]) {
                return NONE;
            }
            for (int f = 0; f < MOST_FISH; f++) {
                if ((may >> f & 1) != 0 && worth[f] + best[b + 1][used | 1 << f] == best[b][used]) {
                    return f;
                }
            }
            return NONE;
        }

        void planOrder(Sea sea) {
            int lying = sea.placed(Sea.ON_SLAB);
            for (int f = 0; f < sea.fishCount; f++) {
                turns[f] = sea.turnsBy(f);
            }
            // from all sold back to none; the sets of others than lie there tell nothing
            for (int sold = lying; sold > 0; sold = (sold - 1) & lying) {
                best[0][sold] = bestOrder(sea, lying, sold);
            }
            best[0][0] = bestOrder(sea, lying, 0);
            most = best[0][0];
            int sold = 0;
            for (int k = 0; k < Integer.bitCount(lying); k++) {
                taken[k] = firstOrder(sea, lying, sold);
                sold |= 1 << taken[k];
            }
        }

        private int gain(Sea sea, int f, int day) {
            return sea.fish[f][Sea.FRESH] - day * turns[f] > 0 ? sea.fish[f][Sea.SIZE] : 0;
        }

        private int bestOrder(Sea sea, int lying, int sold) {
            int sum = 0;
            int day = Integer.bitCount(sold);
            for (int f = 0; f < sea.fishCount; f++) {
                if (((lying & ~sold) >> f & 1) != 0) {
                    sum = Math.max(sum, gain(sea, f, day) + best[0][sold | 1 << f]);
                }
            }
            return sum;
        }

        private int firstOrder(Sea sea, int lying, int sold) {
            int day = Integer.bitCount(sold);
            for (int f = 0; f < sea.fishCount; f++) {
                boolean lies = ((lying & ~sold) >> f & 1) != 0;
                if (lies && gain(sea, f, day) + best[0][sold | 1 << f] == best[0][sold]) {
                    return f;
                }
            }
            return 0;
        }

        void planPairs(Sea sea) {
            int sets = 1 << sea.fishCount;
            int gone = sea.placed(Sea.GONE);
            best[0][0] = 0;
            for (int set = 1; set < sets; set++) {
                best[0][set] = (set & gone) != 0 ? 0 : bestPairs(sea, set);
            }
            int set = (sets - 1) & ~gone;
            most = best[0][set];
            Arrays.fill(taken, NONE);
            for (int f = 0; f < sea.fishCount; f++) {
                if ((set >> f & 1) != 0) {
                    int with = firstPair(sea, set, f);
                    set &= ~(1 << f);
                    if (with != NONE) {
                        taken[f] = with;
                        taken[with] = f;
                        set &= ~(1 << with);
                    }
                }
            }
        }

        private static int pairSize(Sea sea, int f, int g) {
            boolean alike = sea.fish[f][Sea.KIND] == sea.fish[g][Sea.KIND];
            return alike ? NONE : sea.fish[f][Sea.SIZE] + sea.fish[g][Sea.SIZE];
        }

        private int bestPairs(Sea sea, int set) {
            int f = sea.leastOf(set);
            int rest = set & ~(1 << f);
            int sum = best[0][rest];
            for (int g = f + 1; g < sea.fishCount; g++) {
                int size = (rest >> g & 1) != 0 ? pairSize(sea, f, g) : NONE;
                if (size != NONE) {
                    sum = Math.max(sum, size + best[0][rest & ~(1 << g)]);
                }
            }
            return sum;
        }

        private int firstPair(Sea sea, int set, int f) {
            int rest = set & ~(1 << f);
            if (best[0][rest] == best[0][set]) {
                return NONE;
            }
            for (int g = f + 1; g < sea.fishCount; g++) {
                int size = (rest >> g & 1) != 0 ? pairSize(sea, f, g) : NONE;
                if (size != NONE && size + best[0][rest & ~(1 << g)] == best[0][set]) {
                    return g;
                }
            }
            return NONE;
        }
    }

    /** What is known of a catch by days that were told. */
    static final class Guess {
        static final int DAYS = 100;
        static final int RATES = 20;
        static final int MOST_ROWS = 20;

        final int[] days = new int[MOST_ROWS];
        final int[] fresh = new int[MOST_ROWS];
        final int[] fitting = new int[DAYS * RATES];
        final int[] parts = new int[MOST_FRESH + 1];
        int rows = 0;
        int fits = 0;

        /** Uses the tape up; whether it has rows of two numbers each, or none. */
        boolean takeRows(Tape tape) {
            int length = tape.length;
            tape.length = 0;
            if (length > 2 * MOST_ROWS || length % 2 != 0) {
                return false;
            }
            rows = length / 2;
            for (int r = 0; r < rows; r++) {
                days[r] = tape.bytes[2 * r];
                fresh[r] = tape.bytes[2 * r + 1];
                if (days[r] < 0 || days[r] >= DAYS || fresh[r] < 0 || fresh[r] > MOST_FRESH) {
                    return false;
                }
            }
            return true;
        }

        private static int freshBy(int pair, int day) {
            int since = Math.max(0, day - pair % DAYS);
            return Math.max(0, MOST_FRESH - pair / DAYS * since);
        }

        void fit() {
            fits = 0;
            for (int pair = 0; pair < DAYS * RATES; pair++) {
                if (isFitting(pair)) {
                    fitting[fits++] = pair;
                }
            }
        }

        private boolean isFitting(int pair) {
            for (int r = 0; r < rows; r++) {
                if (freshBy(pair, days[r]) != fresh[r]) {
                    return false;
                }
            }
            return true;
        }

        int bestQuestion() {
            if (fits < 2) {
                return NONE;
            }
            int best = NONE;
            int bestPart = fits + 1;
            for (int day = 0; day < DAYS; day++) {
                int part = greatestPart(day, bestPart);
                if (part < bestPart) {
                    best = day;
                    bestPart = part;
                }
            }
            return best;
        }

        /** Counts no further than enough: a greater part is as bad. */
        private int greatestPart(int day, int enough) {
            Arrays.fill(parts, 0);
            int greatest = 0;
            for (int i = 0; i < fits && greatest < enough; i++) {
                int answer = freshBy(fitting[i], day);
                parts[answer]++;
                greatest = Math.max(greatest, parts[answer]);
            }
            return greatest;
        }
    }
}
