/**
 * A castle of chalk that is used up by writing: blocks that rest on one another,
 * clerks who write with them, rain, and what can be foretold of all this.
 * Every refusal is an answer; no call throws.
 */
public final class ChalkCastle {
    public static final int NONE = -1000000, BAD = -1000001, STATE = -1000002, FULL = -1000003;

    private static final int BEFORE_FINDINGS = -1000010, BEFORE_PLACES = -1000100;
    private static final int NULL = 1, PLACE = 2, KIND = 3, SIZE = 4, STORE = 5;

    private static final int ROWS = 8, LANES = 3, MOST_ITEMS = 40, MOST_BYTES = 120;
    private static final int MOST_BLOCKS = 8, MOST_RESTS = 12, MOST_CLERKS = 4;
    private static final int MOST_CHALK = 30, MOST_LINES = 30, MOST_RUBBED = 60, ALL_CHALK = 240;
    private static final int MOST_ACTS = 24, LAST_DAY = 999, IMAGES = 2;
    private static final int MOST_WRITINGS = 4, MOST_TOLD = 8;
    private static final int MOST_DRAWS = 60, LAST_SEED = 999999;

    private static final int CLERK = 1, SHORT = 2, POET = 3, BOY = 4, LAWYER = 5, KINDS = 6;
    private static final int ASK_SIZE = 0, ASK_MARK = 1, ASKS = 2, MOST_TRACED = 16;

    /** By kinds: all kinds (bits) that one of this kind is. */
    private static final int[] IS_TOO = {1, 3, 7, 11, 17, 49};

    /** By kinds: the body told for the kind, or for the nearest kind that it is, too. */
    private static final int[] SIZE_BODIES = {10, 11, 12, 11, 13, 14};
    private static final int[] MARK_BODIES = {20, 21, 24, 22, 23, 23};

    private final Row[] rows = new Row[ROWS];
    private final Reader reader = new Reader();
    private int latestFault = 0;
    private int finding = 0;

    /** A plan without blocks is no castle, and no image. */
    private final Plan plan = new Plan();
    private final State now = new State();

    /** A ring: the state ahead of each act that can be undone. */
    private final State[] ahead = new State[MOST_ACTS];
    private int nextAct = 0;
    private int acts = 0;

    private final Plan[] imagePlans = new Plan[IMAGES];
    private final State[] imageStates = new State[IMAGES];

    private final State foretold = new State();
    private final Search search = new Search();
    private final Asking asking = new Asking();

    /** All that any call needs is made here, so that no call makes an object. */
    public ChalkCastle() {
        for (int i = 0; i < ROWS; i++) {
            rows[i] = new Row();
        }
        for (int i = 0; i < MOST_ACTS; i++) {
            ahead[i] = new State();
        }
        for (int i = 0; i < IMAGES; i++) {
            imagePlans[i] = new Plan();
            imageStates[i] = new State();
        }
    }

    // ---- rows

    public int row(int row, int lane, int n) {
        if (!isBelow(row, ROWS) || !isBelow(lane, LANES) || n > MOST_ITEMS) {
            return BAD;
        }
        if (n < 0) {
            return found(SIZE);
        }
        rows[row].begin(lane, n);
        return foundNone(n);
    }

    public int set(int row, int i, int v) {
        if (!isBelow(row, ROWS)) {
            return BAD;
        }
        Row at = rows[row];
        int lack = at.lackOf(i, 1);
        if (lack != 0) {
            return found(lack);
        }
        at.items[i] = at.lowestBits(v);
        return foundNone(at.items[i]);
    }

    public int copy(int a, int i, int b, int j, int n) {
        if (!isBelow(a, ROWS) || !isBelow(b, ROWS)) {
            return BAD;
        }
        Row from = rows[a];
        Row to = rows[b];
        if (from.isMissing() || to.isMissing()) {
            return found(NULL);
        }
        if (from.lane != to.lane) {
            return found(STORE);
        }
        if (!from.hasPlaces(i, n) || !to.hasPlaces(j, n)) {
            return found(PLACE);
        }
        System.arraycopy(from.items, i, to.items, j, n);
        return foundNone(n);
    }

    public int drop(int row) {
        if (!isBelow(row, ROWS)) {
            return BAD;
        }
        Row at = rows[row];
        if (at.isMissing()) {
            return found(NULL);
        }
        int had = at.length;
        at.drop();
        return foundNone(had);
    }

    // ---- what is told

    public int feed(int letter) {
        if (letter < 0 || letter > 255) {
            return BAD;
        }
        return reader.hasTaken(letter) ? reader.bytes : FULL;
    }

    public int castle() {
        reader.readCastle();
        reader.bytes = 0;
        if (reader.fault != 0) {
            latestFault = reader.fault;
            return BEFORE_PLACES - reader.place;
        }
        plan.become(reader.plan);
        now.begin(plan);
        acts = 0;
        return plan.blocks;
    }

    public int fault() {
        return latestFault;
    }

    public int undo() {
        if (acts < 1) {
            return STATE;
        }
        nextAct = nextAct == 0 ? MOST_ACTS - 1 : nextAct - 1;
        now.become(ahead[nextAct]);
        acts--;
        return acts;
    }

    // ---- what is done

    public int write(int clerk, int n, int block) {
        if (!plan.hasClerk(clerk) || !isLines(n) || !plan.hasBlock(block)) {
            return BAD;
        }
        int chalk = plan.chalkFor(clerk, n, now.day);
        if (now.chalk[block] < chalk) {
            return STATE;
        }
        beginAct();
        now.useUp(block, chalk);
        now.lines[clerk] += n;
        return chalk;
    }

    public int rub(int n, int block) {
        if (n < 1 || n > MOST_RUBBED || !plan.hasBlock(block)) {
            return BAD;
        }
        if (now.dust < n) {
            return STATE;
        }
        beginAct();
        now.dust -= n;
        now.chalk[block] = Math.min(MOST_CHALK, now.chalk[block] + n * plan.rubs / 10);
        return now.chalk[block];
    }

    public int rain() {
        if (!hasCastle()) {
            return STATE;
        }
        beginAct();
        plan.letRain(now);
        return standingNow();
    }

    public int days(int n) {
        if (!hasCastle()) {
            return STATE;
        }
        if (n < 1 || n > MOST_ACTS) {
            return BAD;
        }
        if (now.day + n > LAST_DAY) {
            return FULL;
        }
        for (int i = 0; i < n; i++) {
            beginAct();
            now.day++;
        }
        return now.day;
    }

    public int block(int block, int what) {
        if (!plan.hasBlock(block)) {
            return BAD;
        }
        switch (what) {
            case 0: return now.chalk[block];
            case 1: return standingNow() >> block & 1;
            case 2: return plan.below[block];
            case 3: return plan.above(block);
            default: return BAD;
        }
    }

    public int clerk(int clerk, int what) {
        if (!plan.hasClerk(clerk)) {
            return BAD;
        }
        switch (what) {
            case 0: return plan.hands[clerk];
            case 1: return now.lines[clerk];
            default: return BAD;
        }
    }

    public int takes(int clerk, int n) {
        if (!plan.hasClerk(clerk) || !isLines(n)) {
            return BAD;
        }
        return plan.chalkFor(clerk, n, now.day);
    }

    public int stand(int what) {
        if (!hasCastle()) {
            return STATE;
        }
        switch (what) {
            case 0: return standingNow();
            case 1: return now.withChalk() & ~standingNow();
            case 2: return now.allChalk();
            case 3: return now.dust;
            case 4: return now.allLines();
            default: return BAD;
        }
    }

    // ---- foretold

    public int wouldFall(int blocks) {
        if (!hasCastle()) {
            return STATE;
        }
        if (!plan.areBlocks(blocks)) {
            return BAD;
        }
        return fallingWithout(blocks);
    }

    public int left(int clerk) {
        if (!plan.hasClerk(clerk)) {
            return BAD;
        }
        int each = plan.chalkFor(clerk, 1, now.day);
        if (each < 1) {
            return 0;
        }
        int lines = 0;
        for (int b = 0; b < plan.blocks; b++) {
            lines += now.chalk[b] / each;
        }
        return lines;
    }

    public int leastFallen(int n, int blocks, int what) {
        if (!hasCastle()) {
            return STATE;
        }
        if (n < 0 || n > ALL_CHALK || !plan.areBlocks(blocks) || !isBelow(what, 2)) {
            return BAD;
        }
        int withChalk = now.withChalk();
        int standing = plan.standing(withChalk);
        int chalk = now.allChalk();
        int fewest = MOST_BLOCKS + 1;
        int least = NONE;
        for (int without = 0; without <= standing; without++) {
            if ((without & ~standing) != 0) {
                continue;
            }
            int falling = standing & ~plan.standing(withChalk & ~without);
            int fallen = Integer.bitCount(falling);
            // Each block that stands then keeps 1 of its chalk; all else can be used.
            int usable = chalk - Integer.bitCount(standing & ~falling);
            if ((falling & blocks) == 0 && usable >= n && fallen < fewest) {
                fewest = fallen;
                least = without;
            }
        }
        return what == 1 || least == NONE ? least : fewest;
    }

    public int must() {
        if (!hasCastle()) {
            return STATE;
        }
        int standing = standingNow();
        int all = Integer.bitCount(standing);
        int needed = 0;
        for (int b = 0; b < plan.blocks; b++) {
            if (2 * Integer.bitCount(fallingWithout(1 << b)) > all) {
                needed |= 1 << b;
            }
        }
        return needed & standing;
    }

    public int writings(int row, int i, int n, int k) {
        if (!hasCastle()) {
            return STATE;
        }
        if (!isBelow(row, ROWS) || n < 1 || n > MOST_WRITINGS || k < -1) {
            return BAD;
        }
        Row told = rows[row];
        int lack = told.lackOf(i, 2 * n);
        if (lack != 0) {
            return found(lack);
        }
        if (!tellsWritings(told.items, i, n)) {
            return BAD;
        }
        search.begin(now, n);
        for (int t = 0; t < n; t++) {
            search.needs[t] = plan.chalkFor(told.items[i + 2 * t], told.items[i + 2 * t + 1], now.day);
        }
        tryBlocks(plan, search, 0);
        if (search.most < 0 || k >= n) {
            return foundNone(NONE);
        }
        return foundNone(k < 0 ? search.most : search.firstWay[k]);
    }

    public int from(int row, int i, int what) {
        if (!hasCastle()) {
            return STATE;
        }
        if (!isBelow(row, ROWS) || !isBelow(what, 2)) {
            return BAD;
        }
        Row told = rows[row];
        int lack = told.lackOf(i, plan.blocks);
        if (lack != 0) {
            return found(lack);
        }
        int block = onlyLessened(told.items, i);
        int chalk = block < 0 ? 0 : now.chalk[block] - told.items[i + block];
        int ways = 0;
        int first = NONE;
        for (int c = 0; c < plan.clerks && block >= 0; c++) {
            for (int n = 1; n <= MOST_LINES; n++) {
                if (plan.chalkFor(c, n, now.day) == chalk) {
                    first = ways == 0 ? 10 * c + block : first;
                    ways++;
                }
            }
        }
        return foundNone(what == 0 ? ways : first);
    }

    public int who(int clerk, int row, int i, int n) {
        if (!plan.hasClerk(clerk) || !isBelow(row, ROWS) || n < 1 || n > MOST_TOLD) {
            return BAD;
        }
        Row told = rows[row];
        int lack = told.lackOf(i, 2 * n);
        if (lack != 0) {
            return found(lack);
        }
        for (int t = 0; t < n; t++) {
            if (!isLines(told.items[i + 2 * t])) {
                return BAD;
            }
        }
        int kinds = 0;
        for (int kind = CLERK; kind < KINDS; kind++) {
            if (fitsKind(kind, plan.hands[clerk], told.items, i, n)) {
                kinds |= 1 << kind;
            }
        }
        return foundNone(kinds);
    }

    public int layer(int block) {
        return plan.hasBlock(block) ? plan.layers[block] : BAD;
    }

    public int longest(int clerk, int what) {
        if (!plan.hasClerk(clerk) || !isBelow(what, 2)) {
            return BAD;
        }
        int most = 0;
        int first = 0;
        for (int b = 0; b < plan.blocks; b++) {
            int lines = linesAtOnce(clerk, now.chalk[b]);
            if (lines > most) {
                most = lines;
                first = b;
            }
        }
        return what == 0 ? most : first;
    }

    public long rains(int block, int p, int what) {
        if (!plan.hasBlock(block) || p < 0 || p > 10 || !isBelow(what, 2)) {
            return BAD;
        }
        int withChalk = now.withChalk();
        long cases = 0;
        for (int lost = 0; lost < 1 << plan.blocks; lost++) {
            if ((plan.standing(withChalk & ~lost) >> block & 1) == 1) {
                int losing = Integer.bitCount(lost);
                cases += power(p, losing) * power(10 - p, plan.blocks - losing);
            }
        }
        return lowestTerms(cases, power(10, plan.blocks), what);
    }

    public int share(int clerk, int what) {
        if (!plan.hasClerk(clerk) || !isBelow(what, 2)) {
            return BAD;
        }
        return (int) lowestTerms(now.lines[clerk], now.allLines(), what);
    }

    public int drawn(int n, int seed, int what) {
        if (!hasCastle()) {
            return STATE;
        }
        if (n < 0 || n > MOST_DRAWS || seed < 1 || seed > LAST_SEED || !isBelow(what, 2)) {
            return BAD;
        }
        foretold.become(now);
        // Only what these draws make is told.
        foretold.dust = 0;
        long x = seed;
        for (int i = 0; i < n; i++) {
            x = x * 16807 % 2147483647;
            drawWriting(x);
            if (x % 4 == 0) {
                plan.letRain(foretold);
            }
            foretold.day++;
        }
        return what == 0 ? plan.standing(foretold.withChalk()) : foretold.dust;
    }

    public int image(int k) {
        if (!isBelow(k, IMAGES)) {
            return BAD;
        }
        if (!hasCastle()) {
            return STATE;
        }
        imagePlans[k].become(plan);
        imageStates[k].become(now);
        return 1;
    }

    public int restore(int k) {
        if (!isBelow(k, IMAGES)) {
            return BAD;
        }
        if (imagePlans[k].blocks < 1) {
            return STATE;
        }
        plan.become(imagePlans[k]);
        now.become(imageStates[k]);
        acts = 0;
        return 1;
    }

    // ---- asked

    public int kind(int one) {
        return plan.hasClerk(one) ? plan.kinds[one] : BAD;
    }

    public int as(int one, int kind) {
        if (!plan.hasClerk(one) || !isBelow(kind, KINDS)) {
            return BAD;
        }
        if ((IS_TOO[plan.kinds[one]] >> kind & 1) == 0) {
            return found(KIND);
        }
        return foundNone(one);
    }

    public int ask(int one, int what) {
        if (!plan.hasClerk(one) || !isBelow(what, ASKS)) {
            return BAD;
        }
        asking.begin(one, plan.kinds[one], plan.hands[one], now.lines[one]);
        return answerOf(asking, what, 0);
    }

    public int trace(int i) {
        return isBelow(i, asking.length) ? asking.trace[i] : NONE;
    }

    public int count(int what) {
        switch (what) {
            case 0: return rowsThere();
            case 1: return plan.blocks;
            case 2: return plan.rests;
            case 3: return plan.clerks;
            case 4: return now.day;
            case 5: return now.allLines();
            case 6: return acts;
            case 7: return reader.bytes;
            default: return BAD;
        }
    }

    public int status() {
        return finding;
    }

    // ---- what these calls share

    private static boolean isBelow(int number, int end) {
        return number >= 0 && number < end;
    }

    private static boolean isLines(int n) {
        return n >= 1 && n <= MOST_LINES;
    }

    private int found(int number) {
        finding = number;
        return BEFORE_FINDINGS - number;
    }

    private int foundNone(int answer) {
        finding = 0;
        return answer;
    }

    private boolean hasCastle() {
        return plan.blocks > 0;
    }

    private int rowsThere() {
        int there = 0;
        for (int i = 0; i < ROWS; i++) {
            if (!rows[i].isMissing()) {
                there++;
            }
        }
        return there;
    }

    /** In a full ring the next place is the oldest act's, which is so forgotten. */
    private void beginAct() {
        ahead[nextAct].become(now);
        nextAct = nextAct == MOST_ACTS - 1 ? 0 : nextAct + 1;
        acts = Math.min(MOST_ACTS, acts + 1);
    }

    private int standingNow() {
        return plan.standing(now.withChalk());
    }

    private int fallingWithout(int blocks) {
        int withChalk = now.withChalk();
        return plan.standing(withChalk) & ~plan.standing(withChalk & ~blocks);
    }

    private boolean tellsWritings(int[] items, int i, int n) {
        for (int t = 0; t < n; t++) {
            if (!plan.hasClerk(items[i + 2 * t]) || !isLines(items[i + 2 * t + 1])) {
                return false;
            }
        }
        return true;
    }

    /** Writing never makes a block stand, so a beginning that is no better than the best is left. */
    private static void tryBlocks(Plan plan, Search search, int depth) {
        int standing = Integer.bitCount(plan.standing(search.state.withChalk()));
        if (standing <= search.most) {
            return;
        }
        if (depth >= search.n) {
            search.keepWay(standing);
            return;
        }
        int need = search.needs[depth];
        int[] chalk = search.state.chalk;
        for (int b = 0; b < plan.blocks; b++) {
            if (chalk[b] >= need) {
                chalk[b] -= need;
                search.way[depth] = b;
                tryBlocks(plan, search, depth + 1);
                chalk[b] += need;
            }
        }
    }

    /** The one block that has less by what is told, all others being the same; -1: no such one. */
    private int onlyLessened(int[] items, int i) {
        int only = -1;
        for (int b = 0; b < plan.blocks; b++) {
            int told = items[i + b];
            if (told == now.chalk[b]) {
                continue;
            }
            if (only >= 0 || told < 0 || told > now.chalk[b]) {
                return -1;
            }
            only = b;
        }
        return only;
    }

    private boolean fitsKind(int kind, int hand, int[] items, int i, int n) {
        for (int t = 0; t < n; t++) {
            if (chalkByKind(kind, hand, items[i + 2 * t], now.day) != items[i + 2 * t + 1]) {
                return false;
            }
        }
        return true;
    }

    private int linesAtOnce(int clerk, int chalk) {
        int lines = 0;
        for (int n = 1; n <= MOST_LINES; n++) {
            if (plan.chalkFor(clerk, n, now.day) <= chalk) {
                lines = n;
            }
        }
        return lines;
    }

    private void drawWriting(long x) {
        if (plan.clerks < 1 || plan.blocks < 1) {
            return;
        }
        int clerk = (int) (x % plan.clerks);
        int block = (int) (x % plan.blocks);
        int chalk = plan.chalkFor(clerk, (int) (x % 5) + 1, foretold.day);
        if (foretold.chalk[block] >= chalk) {
            foretold.useUp(block, chalk);
        }
    }

    private static int answerOf(Asking asked, int ask, int depth) {
        int[] bodies = ask == ASK_SIZE ? SIZE_BODIES : MARK_BODIES;
        return isBelow(asked.kind, KINDS) ? runBody(asked, bodies[asked.kind], depth) : 0;
    }

    /** No ask opens more than six bodies; the guard on the depth is for the eye. */
    private static int runBody(Asking asked, int body, int depth) {
        if (depth > MOST_TRACED) {
            return 0;
        }
        asked.leave(body);
        int deeper = depth + 1;
        switch (body) {
            case 10: return asked.hand;
            case 11: return runBody(asked, 10, deeper) + answerOf(asked, ASK_MARK, deeper);
            case 12: return -runBody(asked, 11, deeper);
            case 13: return runBody(asked, 10, deeper) - 100;
            case 14: return 2 * runBody(asked, 13, deeper);
            case 20: return asked.number;
            case 21: return runBody(asked, 20, deeper) + asked.lines;
            case 22: return runBody(asked, 21, deeper) - 1000;
            case 23: return runBody(asked, 20, deeper) - answerOf(asked, ASK_SIZE, deeper);
            case 24: return 2 * runBody(asked, 21, deeper);
            default: return 0;
        }
    }

    private static int chalkByKind(int kind, int hand, int n, int day) {
        switch (kind) {
            case CLERK: return hand * n;
            case SHORT: return (hand * n + 1) / 2;
            case POET: return 2 * hand * n;
            case BOY: return n + Math.min(day, 9);
            default: return n + Math.min(day, 9) + hand;
        }
    }

    private static long power(long base, int times) {
        long product = 1;
        for (int i = 0; i < times; i++) {
            product *= base;
        }
        return product;
    }

    private static long lowestTerms(long above, long below, int what) {
        // 0 is 0 by 1, which is what is asked for, itself.
        if (above == 0) {
            return what;
        }
        long divisor = above;
        long rest = below;
        // A hundred steps are more than any two longs need.
        for (int i = 0; i < 100 && rest != 0; i++) {
            long next = divisor % rest;
            divisor = rest;
            rest = next;
        }
        if (divisor == 0) {
            return what;
        }
        return (what == 0 ? above : below) / divisor;
    }

    /** Made once and used again: while it is missing it has fewer items than none. */
    private static final class Row {
        final int[] items = new int[MOST_ITEMS];
        int lane = 0;
        int length = -1;

        Row() {
        }

        void begin(int itsLane, int n) {
            lane = itsLane;
            length = Math.min(n, MOST_ITEMS);
            for (int i = 0; i < MOST_ITEMS; i++) {
                items[i] = 0;
            }
        }

        void drop() {
            length = -1;
        }

        boolean isMissing() {
            return length < 0;
        }

        boolean hasPlaces(int i, int n) {
            return i >= 0 && n >= 0 && i <= length - n;
        }

        /** The finding by which n items from i on are not to be had; 0: they are. */
        int lackOf(int i, int n) {
            if (isMissing()) {
                return NULL;
            }
            return hasPlaces(i, n) ? 0 : PLACE;
        }

        int lowestBits(int v) {
            switch (lane) {
                case 0: return (byte) v;
                case 1: return (short) v;
                default: return v;
            }
        }
    }

    /** What a text tells, and no act changes. */
    private static final class Plan {
        int rain = 0;
        int rubs = 0;
        int blocks = 0;
        int rests = 0;
        int clerks = 0;
        final int[] chalk = new int[MOST_BLOCKS];
        final int[] below = new int[MOST_BLOCKS];
        final int[] layers = new int[MOST_BLOCKS];
        final int[] kinds = new int[MOST_CLERKS];
        final int[] hands = new int[MOST_CLERKS];

        Plan() {
        }

        void clear() {
            blocks = 0;
            rests = 0;
            clerks = 0;
            for (int b = 0; b < MOST_BLOCKS; b++) {
                chalk[b] = 0;
                below[b] = 0;
                layers[b] = 0;
            }
        }

        void become(Plan other) {
            rain = other.rain;
            rubs = other.rubs;
            blocks = other.blocks;
            rests = other.rests;
            clerks = other.clerks;
            System.arraycopy(other.chalk, 0, chalk, 0, MOST_BLOCKS);
            System.arraycopy(other.below, 0, below, 0, MOST_BLOCKS);
            System.arraycopy(other.layers, 0, layers, 0, MOST_BLOCKS);
            System.arraycopy(other.kinds, 0, kinds, 0, MOST_CLERKS);
            System.arraycopy(other.hands, 0, hands, 0, MOST_CLERKS);
        }

        boolean hasBlock(int block) {
            return isBelow(block, blocks);
        }

        boolean hasClerk(int clerk) {
            return isBelow(clerk, clerks);
        }

        boolean areBlocks(int set) {
            return isBelow(set, 1 << blocks);
        }

        int above(int block) {
            int set = 0;
            for (int b = 0; b < blocks; b++) {
                if ((below[b] >> block & 1) == 1) {
                    set |= 1 << b;
                }
            }
            return set;
        }

        /** A block rests only on lesser ones, so one round in their order is enough. */
        int standing(int withChalk) {
            int set = 0;
            for (int b = 0; b < blocks; b++) {
                boolean borne = below[b] == 0 || (below[b] & set) != 0;
                if (borne && (withChalk >> b & 1) == 1) {
                    set |= 1 << b;
                }
            }
            return set;
        }

        /** Rests may come in any order, so the layers are known only when all are read. */
        void settleLayers() {
            for (int b = 0; b < blocks; b++) {
                for (int under = 0; under < b; under++) {
                    if ((below[b] >> under & 1) == 1) {
                        layers[b] = Math.max(layers[b], layers[under] + 1);
                    }
                }
            }
        }

        int chalkFor(int clerk, int n, int day) {
            return chalkByKind(kinds[clerk], hands[clerk], n, day);
        }

        void letRain(State state) {
            int standing = standing(state.withChalk());
            for (int b = 0; b < blocks; b++) {
                if ((standing >> b & 1) == 1 && (above(b) & standing) == 0) {
                    state.chalk[b] = Math.max(0, state.chalk[b] - rain);
                }
            }
        }
    }

    /** What acts change. */
    private static final class State {
        final int[] chalk = new int[MOST_BLOCKS];
        final int[] lines = new int[MOST_CLERKS];
        int dust = 0;
        int day = 0;

        State() {
        }

        void begin(Plan plan) {
            System.arraycopy(plan.chalk, 0, chalk, 0, MOST_BLOCKS);
            for (int c = 0; c < MOST_CLERKS; c++) {
                lines[c] = 0;
            }
            dust = 0;
            day = 0;
        }

        void become(State other) {
            System.arraycopy(other.chalk, 0, chalk, 0, MOST_BLOCKS);
            System.arraycopy(other.lines, 0, lines, 0, MOST_CLERKS);
            dust = other.dust;
            day = other.day;
        }

        void useUp(int block, int used) {
            chalk[block] -= used;
            dust += used;
        }

        int withChalk() {
            int set = 0;
            for (int b = 0; b < MOST_BLOCKS; b++) {
                if (chalk[b] > 0) {
                    set |= 1 << b;
                }
            }
            return set;
        }

        int allChalk() {
            int sum = 0;
            for (int b = 0; b < MOST_BLOCKS; b++) {
                sum += chalk[b];
            }
            return sum;
        }

        int allLines() {
            int sum = 0;
            for (int c = 0; c < MOST_CLERKS; c++) {
                sum += lines[c];
            }
            return sum;
        }
    }

    /** Has the tape and reads it token by token; at a fault it stays at the token that has it. */
    private static final class Reader {
        final Plan plan = new Plan();
        final int[] tape = new int[MOST_BYTES];
        int bytes = 0;
        int place = 0;
        int fault = 0;

        Reader() {
        }

        /** Whether there is room for the letter, which is on the tape then. */
        boolean hasTaken(int letter) {
            if (bytes >= MOST_BYTES) {
                return false;
            }
            tape[bytes] = letter;
            bytes++;
            return true;
        }

        void readCastle() {
            plan.clear();
            place = 0;
            fault = 0;
            readLaw();
            readBlock();
            // Each reads its last round only to find that there is no room.
            for (int i = 1; i <= MOST_BLOCKS && fault == 0 && letter() == 'b'; i++) {
                readBlock();
            }
            for (int i = 0; i <= MOST_RESTS && fault == 0 && letter() == 'r'; i++) {
                readRest();
            }
            for (int i = 0; i <= MOST_CLERKS && fault == 0 && kindOf(letter()) != 0; i++) {
                readClerk();
            }
            if (fault == 0 && place < bytes) {
                fault = 1;
            }
            plan.settleLayers();
        }

        void readLaw() {
            readSign('k');
            plan.rain = readNumber(1, 9);
            readSign(',');
            plan.rubs = readNumber(0, 10);
            readSign(';');
        }

        void readBlock() {
            lookForRoom('b', plan.blocks, MOST_BLOCKS);
            readSign('b');
            int chalk = readNumber(1, MOST_CHALK);
            readSign(';');
            if (fault == 0) {
                plan.chalk[plan.blocks] = chalk;
                plan.blocks++;
            }
        }

        void readRest() {
            lookForRoom('r', plan.rests, MOST_RESTS);
            readSign('r');
            int upper = readNumber(0, plan.blocks - 1);
            readSign(',');
            int placeOfLower = place;
            int lower = readNumber(0, upper - 1);
            if (fault == 0 && (plan.below[upper] >> lower & 1) == 1) {
                place = placeOfLower;
                fault = 2;
            }
            readSign(';');
            if (fault == 0) {
                plan.below[upper] |= 1 << lower;
                plan.rests++;
            }
        }

        void readClerk() {
            int kind = kindOf(letter());
            lookForRoom(letter(), plan.clerks, MOST_CLERKS);
            readSign(letter());
            int hand = readNumber(1, 9);
            readSign(';');
            if (fault == 0) {
                plan.kinds[plan.clerks] = kind;
                plan.hands[plan.clerks] = hand;
                plan.clerks++;
            }
        }

        static int kindOf(int letter) {
            switch (letter) {
                case 'c': return CLERK;
                case 's': return SHORT;
                case 'p': return POET;
                case 'y': return BOY;
                case 'l': return LAWYER;
                default: return 0;
            }
        }

        int letter() {
            return place < bytes ? tape[place] : -1;
        }

        void lookForRoom(int sign, int there, int most) {
            if (fault == 0 && letter() == sign && there >= most) {
                fault = 3;
            }
        }

        void readSign(int sign) {
            if (fault != 0) {
                return;
            }
            if (letter() != sign) {
                fault = 1;
                return;
            }
            place++;
        }

        int readNumber(int least, int most) {
            if (fault != 0) {
                return 0;
            }
            int value = 0;
            int figures = 0;
            for (int i = place; i < bytes && figures < 3 && tape[i] >= '0' && tape[i] <= '9'; i++) {
                value = 10 * value + tape[i] - '0';
                figures++;
            }
            if (figures < 1 || figures > 2) {
                fault = 1;
                return 0;
            }
            if (value < least || value > most) {
                fault = 2;
                return 0;
            }
            place += figures;
            return value;
        }
    }

    /** With which blocks to write, so that most stand: the first of the best ways. */
    private static final class Search {
        final State state = new State();
        final int[] needs = new int[MOST_WRITINGS];
        final int[] way = new int[MOST_WRITINGS];
        final int[] firstWay = new int[MOST_WRITINGS];
        int n = 0;
        int most = -1;

        Search() {
        }

        void begin(State start, int writings) {
            n = Math.min(writings, MOST_WRITINGS);
            most = -1;
            state.become(start);
        }

        void keepWay(int standing) {
            most = standing;
            System.arraycopy(way, 0, firstWay, 0, n);
        }
    }

    /** An ask of one clerk, and the trace of the bodies that began. */
    private static final class Asking {
        final int[] trace = new int[MOST_TRACED];
        int length = 0;
        int number = 0;
        int kind = 0;
        int hand = 0;
        int lines = 0;

        Asking() {
        }

        void begin(int one, int itsKind, int itsHand, int itsLines) {
            length = 0;
            number = one;
            kind = itsKind;
            hand = itsHand;
            lines = itsLines;
        }

        void leave(int body) {
            if (length < MOST_TRACED) {
                trace[length] = body;
                length++;
            }
        }
    }
}
