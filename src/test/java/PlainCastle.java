import java.math.BigInteger;
import java.util.ArrayList;
import java.util.Arrays;
import java.util.List;
import java.util.TreeSet;

/**
 * The whole document again, slow and plain, by other means than the class: lists, copies of all
 * that there is, every way tried, clerks as classes. It is what drawn runs are held against.
 */
final class PlainCastle {
    private static final class Fault extends RuntimeException {
        private static final long serialVersionUID = 1L;
        final int number;
        final int place;

        Fault(int number, int place) {
            super("a fault");
            this.number = number;
            this.place = place;
        }
    }

    /** Lent to all clerks; n lines, the day. */
    private abstract static class Writer {
        int number;
        int hand;
        int lines;
        List<Integer> trace = new ArrayList<>();

        abstract int kind();

        abstract int chalk(int n, int day);

        int size() {
            trace.add(10);
            return hand;
        }

        int mark() {
            trace.add(20);
            return number;
        }
    }

    private static class Clerk extends Writer {
        int kind() {
            return 1;
        }

        int chalk(int n, int day) {
            return hand * n;
        }

        int size() {
            trace.add(11);
            int given = super.size();
            return given + mark();
        }

        int mark() {
            trace.add(21);
            return super.mark() + lines;
        }
    }

    private static final class ShortOne extends Clerk {
        int kind() {
            return 2;
        }

        int chalk(int n, int day) {
            int all = super.chalk(n, day);
            return all % 2 == 0 ? all / 2 : (all + 1) / 2;
        }

        int size() {
            trace.add(12);
            return 0 - super.size();
        }

        int mark() {
            trace.add(24);
            return super.mark() * 2;
        }
    }

    private static final class Poet extends Clerk {
        int kind() {
            return 3;
        }

        int chalk(int n, int day) {
            return super.chalk(n, day) * 2;
        }

        int mark() {
            trace.add(22);
            return super.mark() - 1000;
        }
    }

    private static class Boy extends Writer {
        int kind() {
            return 4;
        }

        int chalk(int n, int day) {
            return n + (day > 9 ? 9 : day);
        }

        int size() {
            trace.add(13);
            return super.size() - 100;
        }

        int mark() {
            trace.add(23);
            int given = super.mark();
            return given - size();
        }
    }

    private static final class Lawyer extends Boy {
        int kind() {
            return 5;
        }

        int chalk(int n, int day) {
            return super.chalk(n, day) + hand;
        }

        int size() {
            trace.add(14);
            return super.size() * 2;
        }
    }

    private static Writer writer(char sort, int number, int hand, int lines) {
        Writer one = sort == 'c' ? new Clerk() : sort == 's' ? new ShortOne() : sort == 'p' ? new Poet()
            : sort == 'y' ? new Boy() : new Lawyer();
        one.number = number;
        one.hand = hand;
        one.lines = lines;
        return one;
    }

    private static final class Castle {
        int rain;
        int rubs;
        int day;
        int dust;
        List<Integer> chalk = new ArrayList<>();
        List<int[]> rests = new ArrayList<>();
        List<Character> sorts = new ArrayList<>();
        List<Integer> hands = new ArrayList<>();
        List<Integer> lines = new ArrayList<>();

        Castle copy() {
            Castle c = new Castle();
            c.rain = rain;
            c.rubs = rubs;
            c.day = day;
            c.dust = dust;
            c.chalk.addAll(chalk);
            c.rests.addAll(rests);
            c.sorts.addAll(sorts);
            c.hands.addAll(hands);
            c.lines.addAll(lines);
            return c;
        }

        boolean stands(int block) {
            if (chalk.get(block) == 0) {
                return false;
            }
            boolean any = false;
            boolean borne = false;
            for (int[] rest : rests) {
                if (rest[0] == block) {
                    any = true;
                    borne |= stands(rest[1]);
                }
            }
            return !any || borne;
        }

        int bits() {
            int bits = 0;
            for (int b = 0; b < chalk.size(); b++) {
                bits += stands(b) ? 1 << b : 0;
            }
            return bits;
        }

        int standing() {
            return Integer.bitCount(bits());
        }

        Writer one(int clerk) {
            return writer(sorts.get(clerk), clerk, hands.get(clerk), lines.get(clerk));
        }

        int needs(int clerk, int n) {
            return one(clerk).chalk(n, day);
        }

        boolean writes(int clerk, int n, int block) {
            int need = needs(clerk, n);
            if (chalk.get(block) < need) {
                return false;
            }
            chalk.set(block, chalk.get(block) - need);
            dust += need;
            lines.set(clerk, lines.get(clerk) + n);
            return true;
        }

        void rains() {
            Castle before = copy();
            for (int b = 0; b < chalk.size(); b++) {
                boolean under = false;
                for (int[] rest : rests) {
                    under |= rest[1] == b && before.stands(rest[0]);
                }
                if (before.stands(b) && !under) {
                    chalk.set(b, Math.max(0, before.chalk.get(b) - rain));
                }
            }
        }

        Castle without(int set) {
            Castle c = copy();
            for (int b = 0; b < chalk.size(); b++) {
                if ((set & 1 << b) != 0) {
                    c.chalk.set(b, 0);
                }
            }
            return c;
        }

        int allLines() {
            int sum = 0;
            for (int n : lines) {
                sum += n;
            }
            return sum;
        }

        int allChalk() {
            int sum = 0;
            for (int n : chalk) {
                sum += n;
            }
            return sum;
        }
    }

    private final int[][] rows = new int[8][];
    private final int[] lanes = new int[8];
    private final StringBuilder tape = new StringBuilder();
    private Castle castle = null;
    private int fault = 0;
    private int status = 0;
    private final List<Castle> history = new ArrayList<>();
    private final Castle[] images = new Castle[2];
    private List<Integer> trace = new ArrayList<>();

    private static boolean in(int n, int from, int to) {
        return from <= n && n <= to;
    }

    private boolean aBlock(int b) {
        return castle != null && in(b, 0, castle.chalk.size() - 1);
    }

    private boolean aClerk(int c) {
        return castle != null && in(c, 0, castle.sorts.size() - 1);
    }

    private boolean aSet(int bits) {
        return in(bits, 0, (1 << castle.chalk.size()) - 1);
    }

    private int finding(int number) {
        status = number;
        return -1000010 - number;
    }

    private int fine(int answer) {
        status = 0;
        return answer;
    }

    private boolean places(int row, long i, long n) {
        return i >= 0 && n >= 0 && i + n <= rows[row].length;
    }

    int row(int row, int lane, int n) {
        if (!in(row, 0, 7) || !in(lane, 0, 2) || n > 40) {
            return Due.BAD;
        }
        if (n < 0) {
            return finding(4);
        }
        rows[row] = new int[n];
        lanes[row] = lane;
        return fine(n);
    }

    int set(int row, int i, int v) {
        if (!in(row, 0, 7)) {
            return Due.BAD;
        }
        if (rows[row] == null) {
            return finding(1);
        }
        if (!places(row, i, 1)) {
            return finding(2);
        }
        int shift = lanes[row] == 0 ? 24 : lanes[row] == 1 ? 16 : 0;
        rows[row][i] = v << shift >> shift;
        return fine(rows[row][i]);
    }

    int copy(int a, int i, int b, int j, int n) {
        if (!in(a, 0, 7) || !in(b, 0, 7)) {
            return Due.BAD;
        }
        if (rows[a] == null || rows[b] == null) {
            return finding(1);
        }
        if (lanes[a] != lanes[b]) {
            return finding(5);
        }
        if (!places(a, i, n) || !places(b, j, n)) {
            return finding(2);
        }
        int[] were = Arrays.copyOf(rows[a], rows[a].length);
        for (int t = 0; t < n; t++) {
            rows[b][j + t] = were[i + t];
        }
        return fine(n);
    }

    int drop(int row) {
        if (!in(row, 0, 7)) {
            return Due.BAD;
        }
        if (rows[row] == null) {
            return finding(1);
        }
        int n = rows[row].length;
        rows[row] = null;
        return fine(n);
    }

    int feed(int letter) {
        if (!in(letter, 0, 255)) {
            return Due.BAD;
        }
        if (tape.length() == 120) {
            return Due.FULL;
        }
        tape.append((char) letter);
        return tape.length();
    }

    /** Tokens with their places; a run of figures is one token, however long; the end is one, too. */
    private static List<String> tokens(String text, List<Integer> places) {
        List<String> tokens = new ArrayList<>();
        int at = 0;
        while (at < text.length()) {
            int end = at;
            while (end < text.length() && Character.digit(text.charAt(end), 10) >= 0) {
                end++;
            }
            end = Math.max(end, at + 1);
            tokens.add(text.substring(at, end));
            places.add(at);
            at = end;
        }
        tokens.add("");
        places.add(text.length());
        return tokens;
    }

    /** What may stand behind what: a state, by the part that is read and the place in it. */
    private static Castle read(String text) {
        List<Integer> places = new ArrayList<>();
        List<String> tokens = tokens(text, places);
        Castle c = new Castle();
        TreeSet<Integer> seen = new TreeSet<>();
        String rank = "kbr" + "c";
        char part = ' ';
        int t = 0;
        while (true) {
            String first = tokens.get(t);
            int place = places.get(t);
            char next = first.isEmpty() ? 'e' : "cspyl".contains(first) ? 'c' : first.charAt(0);
            boolean fits = part == ' ' ? next == 'k' : part == 'k' ? next == 'b'
                : next == 'e' && first.isEmpty() || next != 'k' && rank.indexOf(next) >= rank.indexOf(part);
            if (!fits) {
                throw new Fault(1, place);
            }
            if (first.isEmpty()) {
                return c;
            }
            part = next;
            if (part == 'b' && c.chalk.size() == 8 || part == 'r' && c.rests.size() == 12
                || part == 'c' && c.sorts.size() == 4) {
                throw new Fault(3, place);
            }
            int[] numbers = new int[2];
            int many = part == 'k' || part == 'r' ? 2 : 1;
            for (int i = 0; i < many; i++) {
                numbers[i] = number(tokens.get(t + 1 + 2 * i), places.get(t + 1 + 2 * i));
                boolean good = part == 'k' ? i == 0 ? in(numbers[0], 1, 9) : in(numbers[1], 0, 10)
                    : part == 'b' ? in(numbers[0], 1, 30)
                    : part == 'c' ? in(numbers[0], 1, 9)
                    : i == 0 ? numbers[0] < c.chalk.size()
                    : numbers[1] < numbers[0] && seen.add(100 * numbers[0] + numbers[1]);
                if (!good) {
                    throw new Fault(2, places.get(t + 1 + 2 * i));
                }
                if (!tokens.get(t + 2 + 2 * i).equals(i == many - 1 ? ";" : ",")) {
                    throw new Fault(1, places.get(t + 2 + 2 * i));
                }
            }
            take(c, part, first, numbers);
            t += 1 + 2 * many;
        }
    }

    private static void take(Castle c, char part, String first, int[] numbers) {
        if (part == 'k') {
            c.rain = numbers[0];
            c.rubs = numbers[1];
        } else if (part == 'b') {
            c.chalk.add(numbers[0]);
        } else if (part == 'r') {
            c.rests.add(numbers);
        } else {
            c.sorts.add(first.charAt(0));
            c.hands.add(numbers[0]);
            c.lines.add(0);
        }
    }

    private static int number(String token, int place) {
        if (!token.matches("[0-9]{1,2}")) {
            throw new Fault(1, place);
        }
        return Integer.parseInt(token);
    }

    int castle() {
        String text = tape.toString();
        tape.setLength(0);
        try {
            castle = read(text);
        } catch (Fault f) {
            fault = f.number;
            return -1000100 - f.place;
        }
        history.clear();
        return castle.chalk.size();
    }

    int fault() {
        return fault;
    }

    int undo() {
        if (history.isEmpty()) {
            return Due.STATE;
        }
        castle = history.remove(history.size() - 1);
        return history.size();
    }

    private void act() {
        history.add(castle.copy());
        if (history.size() > 24) {
            history.remove(0);
        }
    }

    int write(int clerk, int n, int block) {
        if (!aClerk(clerk) || !in(n, 1, 30) || !aBlock(block)) {
            return Due.BAD;
        }
        int need = castle.needs(clerk, n);
        if (!castle.copy().writes(clerk, n, block)) {
            return Due.STATE;
        }
        act();
        castle.writes(clerk, n, block);
        return need;
    }

    int rub(int n, int block) {
        if (!in(n, 1, 60) || !aBlock(block)) {
            return Due.BAD;
        }
        if (castle.dust < n) {
            return Due.STATE;
        }
        act();
        castle.dust -= n;
        castle.chalk.set(block, Math.min(30, castle.chalk.get(block) + n * castle.rubs / 10));
        return castle.chalk.get(block);
    }

    int rain() {
        if (castle == null) {
            return Due.STATE;
        }
        act();
        castle.rains();
        return castle.bits();
    }

    int days(int n) {
        if (castle == null) {
            return Due.STATE;
        }
        if (!in(n, 1, 24)) {
            return Due.BAD;
        }
        if (castle.day + n > 999) {
            return Due.FULL;
        }
        for (int i = 0; i < n; i++) {
            act();
            castle.day++;
        }
        return castle.day;
    }

    int block(int block, int what) {
        if (!aBlock(block) || !in(what, 0, 3)) {
            return Due.BAD;
        }
        int bits = 0;
        for (int[] rest : castle.rests) {
            bits |= what == 2 && rest[0] == block ? 1 << rest[1] : 0;
            bits |= what == 3 && rest[1] == block ? 1 << rest[0] : 0;
        }
        return what == 0 ? castle.chalk.get(block) : what == 1 ? castle.stands(block) ? 1 : 0 : bits;
    }

    int clerk(int clerk, int what) {
        if (!aClerk(clerk) || !in(what, 0, 1)) {
            return Due.BAD;
        }
        return what == 0 ? castle.hands.get(clerk) : castle.lines.get(clerk);
    }

    int takes(int clerk, int n) {
        return aClerk(clerk) && in(n, 1, 30) ? castle.needs(clerk, n) : Due.BAD;
    }

    int stand(int what) {
        if (castle == null) {
            return Due.STATE;
        }
        int fallen = 0;
        for (int b = 0; b < castle.chalk.size(); b++) {
            fallen |= castle.chalk.get(b) > 0 && !castle.stands(b) ? 1 << b : 0;
        }
        int[] all = {castle.bits(), fallen, castle.allChalk(), castle.dust, castle.allLines()};
        return in(what, 0, 4) ? all[what] : Due.BAD;
    }

    int wouldFall(int blocks) {
        if (castle == null) {
            return Due.STATE;
        }
        return aSet(blocks) ? castle.bits() - castle.without(blocks).bits() : Due.BAD;
    }

    int left(int clerk) {
        if (!aClerk(clerk)) {
            return Due.BAD;
        }
        Castle c = castle.copy();
        int lines = 0;
        for (int b = 0; b < c.chalk.size(); b++) {
            while (c.writes(clerk, 1, b)) {
                lines++;
            }
        }
        return lines;
    }

    int leastFallen(int n, int blocks, int what) {
        if (castle == null) {
            return Due.STATE;
        }
        if (!in(n, 0, 240) || !aSet(blocks) || !in(what, 0, 1)) {
            return Due.BAD;
        }
        int fewest = 99;
        int which = Due.NONE;
        for (int set = 255; set >= 0; set--) {
            if ((set & castle.bits()) != set) {
                continue;
            }
            Castle then = castle.without(set);
            int together = 0;
            int falls = 0;
            boolean toldFalls = false;
            for (int b = 0; b < castle.chalk.size(); b++) {
                together += castle.chalk.get(b) - (then.stands(b) ? 1 : 0);
                boolean fell = castle.stands(b) && !then.stands(b);
                falls += fell ? 1 : 0;
                toldFalls |= fell && (blocks & 1 << b) != 0;
            }
            if (!toldFalls && together >= n && falls <= fewest) {
                fewest = falls;
                which = set;
            }
        }
        return which == Due.NONE ? Due.NONE : what == 0 ? fewest : which;
    }

    int must() {
        if (castle == null) {
            return Due.STATE;
        }
        int bits = 0;
        for (int b = 0; b < castle.chalk.size(); b++) {
            int then = castle.without(1 << b).standing();
            if (castle.stands(b) && then < castle.standing() - then) {
                bits |= 1 << b;
            }
        }
        return bits;
    }

    int writings(int row, int i, int n, int k) {
        if (castle == null) {
            return Due.STATE;
        }
        if (!in(row, 0, 7) || !in(n, 1, 4) || k < -1) {
            return Due.BAD;
        }
        if (rows[row] == null) {
            return finding(1);
        }
        if (!places(row, i, 2L * n)) {
            return finding(2);
        }
        for (int t = 0; t < n; t++) {
            if (!aClerk(rows[row][i + 2 * t]) || !in(rows[row][i + 2 * t + 1], 1, 30)) {
                return Due.BAD;
            }
        }
        int size = castle.chalk.size();
        int ways = (int) Math.pow(size, n);
        int most = -1;
        int[] first = new int[n];
        for (int way = 0; way < ways; way++) {
            int[] blocks = new int[n];
            for (int t = n - 1, rest = way; t >= 0; t--, rest /= size) {
                blocks[t] = rest % size;
            }
            Castle c = castle.copy();
            boolean can = true;
            for (int t = 0; t < n; t++) {
                can = can && c.writes(rows[row][i + 2 * t], rows[row][i + 2 * t + 1], blocks[t]);
            }
            if (can && c.standing() > most) {
                most = c.standing();
                first = blocks;
            }
        }
        return fine(most < 0 || k >= n ? Due.NONE : k < 0 ? most : first[k]);
    }

    int from(int row, int i, int what) {
        if (castle == null) {
            return Due.STATE;
        }
        if (!in(row, 0, 7) || !in(what, 0, 1)) {
            return Due.BAD;
        }
        if (rows[row] == null) {
            return finding(1);
        }
        int size = castle.chalk.size();
        if (!places(row, i, size)) {
            return finding(2);
        }
        int ways = 0;
        int first = Due.NONE;
        for (int c = castle.sorts.size() - 1; c >= 0; c--) {
            for (int b = size - 1; b >= 0; b--) {
                for (int n = 1; n <= 30; n++) {
                    Castle then = castle.copy();
                    boolean same = then.writes(c, n, b);
                    for (int t = 0; t < size; t++) {
                        same &= then.chalk.get(t) == rows[row][i + t];
                    }
                    ways += same ? 1 : 0;
                    first = same ? 10 * c + b : first;
                }
            }
        }
        return fine(what == 0 ? ways : first);
    }

    int who(int clerk, int row, int i, int n) {
        if (!aClerk(clerk) || !in(row, 0, 7) || !in(n, 1, 8)) {
            return Due.BAD;
        }
        if (rows[row] == null) {
            return finding(1);
        }
        if (!places(row, i, 2L * n)) {
            return finding(2);
        }
        int kinds = 62;
        for (int t = 0; t < n; t++) {
            int lines = rows[row][i + 2 * t];
            if (!in(lines, 1, 30)) {
                return Due.BAD;
            }
            for (char sort : "cspyl".toCharArray()) {
                Writer one = writer(sort, 0, castle.hands.get(clerk), 0);
                if (one.chalk(lines, castle.day) != rows[row][i + 2 * t + 1]) {
                    kinds &= ~(1 << one.kind());
                }
            }
        }
        return fine(kinds);
    }

    int layer(int block) {
        if (!aBlock(block)) {
            return Due.BAD;
        }
        int layer = 0;
        for (int[] rest : castle.rests) {
            layer = rest[0] == block ? Math.max(layer, 1 + layer(rest[1])) : layer;
        }
        return layer;
    }

    int longest(int clerk, int what) {
        if (!aClerk(clerk) || !in(what, 0, 1)) {
            return Due.BAD;
        }
        for (int n = 30; n > 0; n--) {
            for (int b = 0; b < castle.chalk.size(); b++) {
                if (castle.copy().writes(clerk, n, b)) {
                    return what == 0 ? n : b;
                }
            }
        }
        return 0;
    }

    /** How likely it stands, by ten to the blocks: block after block keeps or loses its chalk. */
    private BigInteger likely(Castle c, int next, int block, int p) {
        if (next == c.chalk.size()) {
            return c.stands(block) ? BigInteger.ONE : BigInteger.ZERO;
        }
        return likely(c, next + 1, block, p).multiply(BigInteger.valueOf(10 - p))
            .add(likely(c.without(1 << next), next + 1, block, p).multiply(BigInteger.valueOf(p)));
    }

    private static long lowest(BigInteger above, BigInteger below, int what) {
        if (above.signum() == 0) {
            return what == 0 ? 0 : 1;
        }
        return (what == 0 ? above : below).divide(above.gcd(below)).longValue();
    }

    long rains(int block, int p, int what) {
        if (!aBlock(block) || !in(p, 0, 10) || !in(what, 0, 1)) {
            return Due.BAD;
        }
        return lowest(likely(castle, 0, block, p), BigInteger.TEN.pow(castle.chalk.size()), what);
    }

    int share(int clerk, int what) {
        if (!aClerk(clerk) || !in(what, 0, 1)) {
            return Due.BAD;
        }
        return (int) lowest(BigInteger.valueOf(castle.lines.get(clerk)),
            BigInteger.valueOf(castle.allLines()), what);
    }

    int drawn(int n, int seed, int what) {
        if (castle == null) {
            return Due.STATE;
        }
        if (!in(n, 0, 60) || !in(seed, 1, 999999) || !in(what, 0, 1)) {
            return Due.BAD;
        }
        Castle c = castle.copy();
        BigInteger x = BigInteger.valueOf(seed);
        for (int i = 0; i < n; i++) {
            x = x.multiply(BigInteger.valueOf(16807)).mod(BigInteger.valueOf(2147483647));
            int value = x.intValueExact();
            if (!c.sorts.isEmpty()) {
                c.writes(value % c.sorts.size(), value % 5 + 1, value % c.chalk.size());
            }
            if (value % 4 == 0) {
                c.rains();
            }
            c.day++;
        }
        return what == 0 ? c.bits() : c.dust - castle.dust;
    }

    int image(int k) {
        if (!in(k, 0, 1)) {
            return Due.BAD;
        }
        if (castle == null) {
            return Due.STATE;
        }
        images[k] = castle.copy();
        return 1;
    }

    int restore(int k) {
        if (!in(k, 0, 1)) {
            return Due.BAD;
        }
        if (images[k] == null) {
            return Due.STATE;
        }
        castle = images[k].copy();
        history.clear();
        return 1;
    }

    int kind(int one) {
        return aClerk(one) ? castle.one(one).kind() : Due.BAD;
    }

    int as(int one, int kind) {
        if (!aClerk(one) || !in(kind, 0, 5)) {
            return Due.BAD;
        }
        Writer w = castle.one(one);
        boolean[] is = {w instanceof Writer, w instanceof Clerk, w instanceof ShortOne, w instanceof Poet,
            w instanceof Boy, w instanceof Lawyer};
        return is[kind] ? fine(w.number) : finding(3);
    }

    int ask(int one, int what) {
        if (!aClerk(one) || !in(what, 0, 1)) {
            return Due.BAD;
        }
        Writer w = castle.one(one);
        int answer = what == 0 ? w.size() : w.mark();
        trace = w.trace;
        return answer;
    }

    int trace(int i) {
        return in(i, 0, Math.min(16, trace.size()) - 1) ? trace.get(i) : Due.NONE;
    }

    int count(int what) {
        int there = 0;
        for (int[] row : rows) {
            there += row == null ? 0 : 1;
        }
        boolean none = castle == null;
        int[] all = {there, none ? 0 : castle.chalk.size(), none ? 0 : castle.rests.size(),
            none ? 0 : castle.sorts.size(), none ? 0 : castle.day, none ? 0 : castle.allLines(),
            history.size(), tape.length()};
        return in(what, 0, 7) ? all[what] : Due.BAD;
    }

    int status() {
        return status;
    }
}
