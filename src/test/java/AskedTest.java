/** Promises 32 kind, 33 as, 34 ask, 35 trace, 36 count, 37 status. */
public final class AskedTest {
    private static final String SORTS = "cspyl";

    public static void main(String[] args) {
        tellsKinds();
        takesAs();
        asks();
        keepsTheTrace();
        counts();
        Due.end("AskedTest");
    }

    private static ChalkCastle oneOf(int kind, int hand) {
        return Due.of("k1,0;b30;y1;" + SORTS.charAt(kind - 1) + hand + ";");
    }

    private static void tellsKinds() {
        for (int kind = 1; kind <= 5; kind++) {
            ChalkCastle x = oneOf(kind, 2);
            Due.is("kind", x.kind(1), kind);
            Due.is("the boy", x.kind(0), 4);
            Due.is("clerk 2", x.kind(2), Due.BAD);
            Due.is("clerk -1", x.kind(-1), Due.BAD);
        }
        Due.is("no castle", new ChalkCastle().kind(0), Due.BAD);
    }

    private static void takesAs() {
        boolean[][] is = {
            {},
            {true, true, false, false, false, false},
            {true, true, true, false, false, false},
            {true, true, false, true, false, false},
            {true, false, false, false, true, false},
            {true, false, false, false, true, true},
        };
        for (int own = 1; own <= 5; own++) {
            ChalkCastle x = oneOf(own, 2);
            for (int kind = 0; kind <= 5; kind++) {
                Due.is(own + " as " + kind, x.as(1, kind), is[own][kind] ? 1 : Due.KIND);
                Due.is("status", x.status(), is[own][kind] ? 0 : 3);
            }
            Due.is("kind 6", x.as(1, 6), Due.BAD);
            Due.is("kind -1", x.as(1, -1), Due.BAD);
            Due.is("clerk 2", x.as(2, 0), Due.BAD);
            Due.is("clerk -1", x.as(-1, 0), Due.BAD);
        }
        ChalkCastle x = oneOf(4, 2);
        x.as(1, 5);
        x.as(1, 6);
        Due.is("BAD leaves the finding", x.status(), 3);
        x.as(1, 4);
        Due.is("none", x.status(), 0);
    }

    private static void answered(int kind, int what, int want, int... trace) {
        ChalkCastle x = oneOf(kind, 3);
        x.write(1, 2, 0);
        String name = "ask " + what + " of kind " + kind;
        Due.is(name, x.ask(1, what), want);
        for (int i = 0; i < trace.length; i++) {
            Due.is("trace of " + name, x.trace(i), trace[i]);
        }
        Due.is("no more of " + name, x.trace(trace.length), Due.NONE);
    }

    /** Hand 3, number 1, 2 lines. */
    private static void asks() {
        answered(1, 0, 3 + 3, 11, 10, 21, 20);
        answered(1, 1, 1 + 2, 21, 20);
        answered(2, 0, -(3 + 6), 12, 11, 10, 24, 21, 20);
        answered(2, 1, 2 * 3, 24, 21, 20);
        answered(3, 0, 3 + 3 - 1000, 11, 10, 22, 21, 20);
        answered(3, 1, 3 - 1000, 22, 21, 20);
        answered(4, 0, 3 - 100, 13, 10);
        answered(4, 1, 1 + 97, 23, 20, 13, 10);
        answered(5, 0, -194, 14, 13, 10);
        answered(5, 1, 1 + 194, 23, 20, 14, 13, 10);
        ChalkCastle x = oneOf(1, 3);
        Due.is("of number 0", x.ask(0, 1), 99);
        Due.is("what 2", x.ask(0, 2), Due.BAD);
        Due.is("what -1", x.ask(0, -1), Due.BAD);
        Due.is("clerk 2", x.ask(2, 0), Due.BAD);
        Due.is("clerk -1", x.ask(-1, 0), Due.BAD);
    }

    private static void keepsTheTrace() {
        ChalkCastle x = oneOf(2, 3);
        Due.is("empty at first", x.trace(0), Due.NONE);
        x.ask(1, 0);
        x.ask(1, 5);
        Due.is("BAD leaves it", x.trace(5), 20);
        x.ask(0, 0);
        Due.is("empty ahead of an ask", x.trace(0), 13);
        Due.is("the second", x.trace(1), 10);
        Due.is("no third", x.trace(2), Due.NONE);
        Due.is("-1", x.trace(-1), Due.NONE);
        Due.is("far beyond", x.trace(Integer.MAX_VALUE), Due.NONE);
        Due.read(x, "k1,0;b1;");
        Due.is("another castle leaves it", x.trace(0), 13);
    }

    private static void counts() {
        ChalkCastle x = Due.of("k1,0;b3;b30;b3;r2,0;r2,1;y1;c1;l1;");
        x.row(3, 0, 4);
        x.row(5, 0, 4);
        x.row(5, 1, 4);
        x.write(0, 7, 1);
        x.write(1, 2, 1);
        x.days(3);
        x.feed('k');
        Due.is("rows", x.count(0), 2);
        Due.is("blocks", x.count(1), 3);
        Due.is("rests", x.count(2), 2);
        Due.is("clerks", x.count(3), 3);
        Due.is("day", x.count(4), 3);
        Due.is("lines", x.count(5), 9);
        Due.is("acts", x.count(6), 5);
        Due.is("bytes", x.count(7), 1);
        Due.is("what 8", x.count(8), Due.BAD);
        Due.is("what -1", x.count(-1), Due.BAD);
    }
}
