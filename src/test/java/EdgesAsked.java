/** The edges of promises 32 kind, 33 as, 34 ask, 35 trace, 36 count, 37 status. */
final class EdgesAsked {
    private static final int LEAST = Integer.MIN_VALUE, MOST = Integer.MAX_VALUE;
    private static final int CLERK = 1, SHORT = 2, POET = 3, BOY = 4, LAWYER = 5;
    private static final int SIZE = 0, MARK = 1;

    private EdgesAsked() {
    }

    static void all() {
        Edge.each(
            EdgesAsked::kindsAreAsTold,
            EdgesAsked::kindIsRefused,
            EdgesAsked::kindsAreOfOneAnother,
            EdgesAsked::asTellsTheNumber,
            EdgesAsked::asIsRefused,
            EdgesAsked::asFindsNoSuchKind,
            EdgesAsked::sizeOfAll,
            EdgesAsked::sizeOfClerks,
            EdgesAsked::sizeOfShortOnes,
            EdgesAsked::sizeOfBoys,
            EdgesAsked::sizeOfLawyers,
            EdgesAsked::markOfAll,
            EdgesAsked::markOfClerks,
            EdgesAsked::markOfPoets,
            EdgesAsked::markOfBoys,
            EdgesAsked::markOfShortOnes,
            EdgesAsked::theNearestBodyBegins,
            EdgesAsked::withinOthersItIsAskedAnew,
            EdgesAsked::asksAreTwo,
            EdgesAsked::askIsRefused,
            EdgesAsked::theTraceIsEmptyAheadOfAnAsk,
            EdgesAsked::theTraceTellsAsTheyBegin,
            EdgesAsked::theTraceHasAnEnd,
            EdgesAsked::countTellsHowMany,
            EdgesAsked::countIsRefused,
            EdgesAsked::statusIsOfTheLatestFinding,
            EdgesAsked::statusOfNone,
            EdgesAsked::statusLeavesOutRefusals,
            EdgesAsked::statusLeavesOutOtherCalls);
    }

    /** One of a kind with a hand, number 3, who wrote so many lines. */
    private static ChalkCastle third(int kind, int hand, int lines) {
        ChalkCastle x = Due.of("k1,0;b30;b30;b30;c1;s1;y1;" + "cspyl".charAt(kind - 1) + hand + ";");
        for (int i = 0; i < lines; i++) {
            x.write(3, 1, i / 30);
        }
        Due.is("lines", x.clerk(3, 1), lines);
        return x;
    }

    private static void isTraced(ChalkCastle x, int... bodies) {
        for (int i = 0; i < bodies.length; i++) {
            Due.is("trace(" + i + ")", x.trace(i), bodies[i]);
        }
        Due.is("trace(" + bodies.length + ")", x.trace(bodies.length), Due.NONE);
    }

    private static void kindsAreAsTold() {
        Edge.says(32, "The KIND of a CLERK, as told (1 to 5).");
        ChalkCastle x = Due.of("k1,0;b1;c1;s1;p1;y1;");
        for (int one = 0; one < 4; one++) {
            Due.is("kind(" + one + ")", x.kind(one), one + 1);
        }
        Due.is("a lawyer", Due.of("k1,0;b1;l1;").kind(0), 5);
    }

    private static void kindIsRefused() {
        Edge.says(32, "BAD.");
        ChalkCastle x = Due.of("k1,0;b1;c1;s1;");
        for (int one : new int[] {-1, 2, 4, LEAST, MOST}) {
            Due.is("kind(" + one + ")", x.kind(one), Due.BAD);
        }
        Due.is("no clerks", Due.of("k1,0;b1;").kind(0), Due.BAD);
        Due.is("no castle", new ChalkCastle().kind(0), Due.BAD);
    }

    private static void kindsAreOfOneAnother() {
        Edge.says(33, "KINDS of CLERKS: 0 WRITER; 1 CLERK, a WRITER; 2 SHORT, a CLERK; 3 POET, a CLERK; "
            + "4 BOY, a WRITER; 5 LAWYER, a BOY. By this it is asked.");
        String[] kinds = {"", "01", "012", "013", "04", "045"};
        for (int own = CLERK; own <= LAWYER; own++) {
            ChalkCastle x = third(own, 1, 0);
            for (int kind = 0; kind <= 5; kind++) {
                boolean is = kinds[own].indexOf('0' + kind) >= 0;
                Due.is("kind " + own + " as " + kind, x.as(3, kind), is ? 3 : Due.KIND);
            }
        }
    }

    private static void asTellsTheNumber() {
        Edge.says(33, "A CLERK is taken as one of a KIND (0 .. 5): its number.");
        ChalkCastle x = Due.of("k1,0;b1;l1;l1;l1;l1;");
        for (int one = 0; one < 4; one++) {
            Due.is("a WRITER", x.as(one, 0), one);
            Due.is("a LAWYER", x.as(one, 5), one);
        }
        Due.is("kind -1", x.as(0, -1), Due.BAD);
        Due.is("kind 6", x.as(0, 6), Due.BAD);
    }

    private static void asIsRefused() {
        Edge.says(33, "BAD;");
        ChalkCastle x = Due.of("k1,0;b1;c1;s1;");
        for (int one : new int[] {-1, 2, 4, LEAST, MOST}) {
            Due.is("clerk " + one, x.as(one, 0), Due.BAD);
            Due.is("ahead of KIND, clerk " + one, x.as(one, 5), Due.BAD);
        }
        for (int kind : new int[] {-1, 6, 32, 33, LEAST, MOST}) {
            Due.is("kind " + kind, x.as(0, kind), Due.BAD);
        }
        Due.is("status()", x.status(), 0);
        Due.is("no castle", new ChalkCastle().as(0, 0), Due.BAD);
    }

    private static void asFindsNoSuchKind() {
        Edge.says(33, "KIND: it is no such one.");
        ChalkCastle x = Due.of("k1,0;b1;c1;y1;");
        Due.is("a CLERK as a SHORT one", x.as(0, 2), Due.KIND);
        Due.is("status()", x.status(), 3);
        Due.is("a CLERK as a CLERK", x.as(0, 1), 0);
        Due.is("status()", x.status(), 0);
        Due.is("a BOY as a LAWYER", x.as(1, 5), Due.KIND);
        Due.is("a BOY as a CLERK", x.as(1, 1), Due.KIND);
        Due.is("kind(1) stays", x.kind(1), 4);
    }

    private static void sizeOfAll() {
        Edge.says(34, "0 SIZE: 10 lent to all of them: HAND.");
        for (int kind = CLERK; kind <= LAWYER; kind++) {
            ChalkCastle x = third(kind, 1, 0);
            ChalkCastle y = third(kind, 9, 0);
            int times = kind == SHORT ? -1 : kind == LAWYER ? 2 : 1;
            Due.is("HAND 9 and HAND 1, kind " + kind, y.ask(3, SIZE) - x.ask(3, SIZE), times * 8);
            boolean begun = false;
            for (int i = 0; i < 6; i++) {
                begun |= x.trace(i) == 10;
            }
            Due.holds("10 begins, kind " + kind, begun);
        }
    }

    private static void sizeOfClerks() {
        Edge.says(34, "11 of CLERKS (KIND 1): what 10 gives, and MARK.");
        ChalkCastle x = third(CLERK, 9, 2);
        Due.is("ask", x.ask(3, SIZE), 9 + 3 + 2);
        isTraced(x, 11, 10, 21, 20);
        ChalkCastle y = third(POET, 9, 1);
        Due.is("of a POET, too", y.ask(3, SIZE), 9 + 3 + 1 - 1000);
        isTraced(y, 11, 10, 22, 21, 20);
    }

    private static void sizeOfShortOnes() {
        Edge.says(34, "12 of SHORT ones: 0 less what 11 gives.");
        ChalkCastle x = third(SHORT, 9, 2);
        Due.is("ask", x.ask(3, SIZE), -(9 + 2 * (3 + 2)));
        isTraced(x, 12, 11, 10, 24, 21, 20);
    }

    private static void sizeOfBoys() {
        Edge.says(34, "13 of BOYS: what 10 gives, less 100.");
        ChalkCastle x = third(BOY, 9, 2);
        Due.is("ask", x.ask(3, SIZE), -91);
        isTraced(x, 13, 10);
    }

    private static void sizeOfLawyers() {
        Edge.says(34, "14 of LAWYERS: what 13 gives, twice.");
        ChalkCastle x = third(LAWYER, 9, 2);
        Due.is("ask", x.ask(3, SIZE), -182);
        isTraced(x, 14, 13, 10);
    }

    private static void markOfAll() {
        Edge.says(34, "1 MARK: 20 lent to all of them: the number.");
        ChalkCastle x = Due.of("k1,0;b1;c9;c9;c9;c9;");
        for (int one = 0; one < 4; one++) {
            Due.is("of number " + one, x.ask(one, MARK), one);
        }
    }

    private static void markOfClerks() {
        Edge.says(34, "21 of CLERKS (KIND 1): what 20 gives, and LINES he wrote.");
        ChalkCastle x = third(CLERK, 1, 31);
        Due.is("ask", x.ask(3, MARK), 3 + 31);
        isTraced(x, 21, 20);
        x.write(2, 5, 2);
        Due.is("not what another wrote", x.ask(3, MARK), 3 + 31);
        x.undo();
        x.undo();
        Due.is("not what is undone", x.ask(3, MARK), 3 + 30);
    }

    private static void markOfPoets() {
        Edge.says(34, "22 of POETS: what 21 gives, less 1000.");
        ChalkCastle x = third(POET, 9, 1);
        Due.is("ask", x.ask(3, MARK), 3 + 1 - 1000);
        isTraced(x, 22, 21, 20);
    }

    private static void markOfBoys() {
        Edge.says(34, "23 of BOYS: what 20 gives, less SIZE.");
        ChalkCastle x = third(BOY, 9, 2);
        Due.is("ask", x.ask(3, MARK), 3 + 91);
        isTraced(x, 23, 20, 13, 10);
    }

    private static void markOfShortOnes() {
        Edge.says(34, "24 of SHORT ones: what 21 gives, twice.");
        ChalkCastle x = third(SHORT, 9, 2);
        Due.is("ask", x.ask(3, MARK), 2 * (3 + 2));
        isTraced(x, 24, 21, 20);
    }

    private static void theNearestBodyBegins() {
        Edge.says(34, "(Of an ask the BODY told for the KIND begins, else that of the nearest KIND that it is, too, "
            + "else the one that is lent;");
        int[] sizes = {0, 11, 12, 11, 13, 14};
        int[] marks = {0, 21, 24, 22, 23, 23};
        for (int kind = CLERK; kind <= LAWYER; kind++) {
            ChalkCastle x = third(kind, 2, 0);
            x.ask(3, SIZE);
            Due.is("SIZE of kind " + kind, x.trace(0), sizes[kind]);
            x.ask(3, MARK);
            Due.is("MARK of kind " + kind, x.trace(0), marks[kind]);
        }
    }

    private static void withinOthersItIsAskedAnew() {
        Edge.says(34, "SIZE, MARK within others are asked of the same CLERK anew.)");
        ChalkCastle x = third(LAWYER, 9, 2);
        Due.is("a LAWYER's SIZE within MARK is twice", x.ask(3, MARK), 3 + 182);
        isTraced(x, 23, 20, 14, 13, 10);
        ChalkCastle y = third(SHORT, 9, 2);
        y.ask(3, SIZE);
        Due.is("a SHORT one's MARK within 11 is 24", y.trace(3), 24);
    }

    private static void asksAreTwo() {
        Edge.says(34, "An ASK (0, 1) of a CLERK.");
        ChalkCastle x = third(BOY, 9, 0);
        Due.is("0", x.ask(3, 0), -91);
        Due.is("1", x.ask(3, 1), 94);
        Due.is("-1", x.ask(3, -1), Due.BAD);
        Due.is("2", x.ask(3, 2), Due.BAD);
    }

    private static void askIsRefused() {
        Edge.says(34, "BAD.");
        ChalkCastle x = Due.of("k1,0;b1;c1;s1;");
        for (int one : new int[] {-1, 2, 4, LEAST, MOST}) {
            Due.is("clerk " + one, x.ask(one, 0), Due.BAD);
        }
        for (int what : new int[] {-1, 2, LEAST, MOST}) {
            Due.is("what " + what, x.ask(0, what), Due.BAD);
        }
        Due.is("nothing began", x.trace(0), Due.NONE);
        Due.is("no castle", new ChalkCastle().ask(0, 0), Due.BAD);
    }

    private static void theTraceIsEmptyAheadOfAnAsk() {
        Edge.says(34, "THE TRACE is empty ahead of it.");
        ChalkCastle x = third(SHORT, 9, 0);
        x.ask(3, SIZE);
        x.ask(2, SIZE);
        isTraced(x, 13, 10);
        x.ask(2, SIZE);
        isTraced(x, 13, 10);
        x.ask(9, SIZE);
        isTraced(x, 13, 10);
    }

    private static void theTraceTellsAsTheyBegin() {
        Edge.says(35, "ASKS of CLERKS, by BODIES, each of which leaves its number in THE TRACE as it begins "
            + "(the first 16):");
        ChalkCastle x = third(SHORT, 9, 0);
        x.ask(3, SIZE);
        isTraced(x, 12, 11, 10, 24, 21, 20);
        Due.is("trace(15)", x.trace(15), Due.NONE);
        Due.is("trace(16)", x.trace(16), Due.NONE);
    }

    private static void theTraceHasAnEnd() {
        Edge.says(35, "Number i of THE TRACE; NONE.");
        ChalkCastle x = third(BOY, 9, 0);
        Due.is("empty at first", x.trace(0), Due.NONE);
        x.ask(3, SIZE);
        Due.is("the first", x.trace(0), 13);
        Due.is("the last", x.trace(1), 10);
        for (int i : new int[] {2, 16, -1, LEAST, MOST}) {
            Due.is("trace(" + i + ")", x.trace(i), Due.NONE);
        }
        Due.read(x, "k1,0;b1;");
        Due.is("another castle leaves it", x.trace(1), 10);
    }

    private static void countTellsHowMany() {
        Edge.says(36, "How many: 0 ROWS, 1 BLOCKS, 2 rests, 3 CLERKS, 4 DAY, 5 all LINES, "
            + "6 ACTS that can be undone, 7 bytes on the tape.");
        ChalkCastle x = new ChalkCastle();
        for (int what = 0; what < 8; what++) {
            Due.is("at first, " + what, x.count(what), 0);
        }
        Due.read(x, "k1,0;b9;b9;b9;b9;b9;b9;r1,0;r2,0;y1;s1;p1;");
        for (int i = 0; i < 4; i++) {
            x.row(2 * i, 0, i);
        }
        x.row(6, 1, 0);
        x.write(0, 5, 0);
        x.write(1, 7, 1);
        x.days(9);
        x.undo();
        x.feed('k');
        x.feed('!');
        int[] counts = {4, 6, 2, 3, 8, 12, 10, 2};
        for (int what = 0; what < 8; what++) {
            Due.is("count(" + what + ")", x.count(what), counts[what]);
        }
        x.days(24);
        Due.is("no more ACTS than are kept", x.count(6), 24);
        x.drop(0);
        Due.is("a row that is dropped", x.count(0), 3);
        x.drop(0);
        Due.is("a row that is missing", x.count(0), 3);
    }

    private static void countIsRefused() {
        Edge.says(36, "BAD.");
        for (int what : new int[] {-1, 8, LEAST, MOST}) {
            Due.is("what " + what, Due.of("k1,0;b9;").count(what), Due.BAD);
            Due.is("no castle, what " + what, new ChalkCastle().count(what), Due.BAD);
        }
    }

    private static void statusIsOfTheLatestFinding() {
        Edge.says(37, "Of the latest call with a ROW, or as(),");
        Edge.says(37, ": the number of its FINDING;");
        ChalkCastle x = Due.of("k1,0;b9;c1;");
        x.row(0, 0, 2);
        x.row(1, 1, 2);
        x.set(2, 0, 0);
        Due.is("NULL", x.status(), 1);
        x.set(0, 2, 0);
        Due.is("PLACE", x.status(), 2);
        x.as(0, 5);
        Due.is("KIND", x.status(), 3);
        x.row(0, 0, -1);
        Due.is("SIZE", x.status(), 4);
        x.copy(0, 0, 1, 0, 1);
        Due.is("STORE", x.status(), 5);
        x.copy(0, 3, 0, 0, 1);
        Due.is("PLACE", x.status(), 2);
        x.drop(5);
        Due.is("NULL", x.status(), 1);
        x.writings(0, 2, 1, 0);
        Due.is("PLACE", x.status(), 2);
        x.from(5, 0, 0);
        Due.is("NULL", x.status(), 1);
        x.who(0, 0, 1, 1);
        Due.is("PLACE", x.status(), 2);
        Due.is("status() leaves itself", x.status(), 2);
    }

    private static void statusOfNone() {
        Edge.says(37, "0: it had none, or there was none.");
        ChalkCastle x = Due.of("k1,0;b9;c1;");
        Due.is("there was none", x.status(), 0);
        x.drop(5);
        x.row(0, 0, 0);
        Due.is("row", x.status(), 0);
        Due.fill(x, 0, 0, 1, 9);
        x.drop(5);
        x.set(0, 0, 0);
        Due.is("set", x.status(), 0);
        x.drop(5);
        x.copy(0, 0, 0, 0, 0);
        Due.is("copy", x.status(), 0);
        x.drop(5);
        x.writings(0, 0, 1, 0);
        Due.is("writings", x.status(), 0);
        x.drop(5);
        Due.is("writings in no way", x.writings(0, 0, 1, 1), Due.NONE);
        Due.is("writings", x.status(), 0);
        x.drop(5);
        x.from(0, 2, 0);
        Due.is("from", x.status(), 0);
        x.drop(5);
        Due.is("from none", x.from(0, 2, 1), Due.NONE);
        Due.is("from", x.status(), 0);
        x.drop(5);
        x.who(0, 0, 1, 1);
        Due.is("who", x.status(), 0);
        x.drop(5);
        x.as(0, 1);
        Due.is("as", x.status(), 0);
        x.drop(5);
        x.drop(0);
        Due.is("drop", x.status(), 0);
    }

    private static void statusLeavesOutRefusals() {
        Edge.says(37, "that was not BAD, STATE, FULL");
        ChalkCastle x = new ChalkCastle();
        x.drop(5);
        x.writings(0, 0, 1, 0);
        x.from(0, 0, 0);
        Due.is("STATE", x.status(), 1);
        Due.read(x, "k1,0;b9;c1;");
        x.drop(5);
        x.row(8, 0, 0);
        x.row(0, 0, 41);
        x.set(8, 0, 0);
        x.copy(8, 0, 0, 0, 0);
        x.drop(8);
        x.writings(8, 0, 1, 0);
        x.from(8, 0, 0);
        x.who(0, 8, 0, 1);
        x.as(1, 0);
        x.as(0, 6);
        Due.is("BAD", x.status(), 1);
        x.row(0, 0, 2);
        x.as(0, 5);
        x.writings(0, 0, 1, 0);
        Due.is("BAD by an ITEM, of writings", x.status(), 3);
        x.who(0, 0, 0, 1);
        Due.is("BAD by an ITEM, of who", x.status(), 3);
    }

    private static void statusLeavesOutOtherCalls() {
        Edge.says(37, "Of the latest call with a ROW, or as(),");
        ChalkCastle x = Due.of("k1,0;b9;c1;");
        x.row(0, 0, -1);
        x.feed('k');
        x.castle();
        x.fault();
        x.write(0, 1, 0);
        x.rub(1, 0);
        x.rain();
        x.days(1);
        x.undo();
        x.block(0, 0);
        x.clerk(0, 0);
        x.takes(0, 1);
        x.stand(0);
        x.wouldFall(0);
        x.left(0);
        x.leastFallen(0, 0, 0);
        x.must();
        x.layer(0);
        x.longest(0, 0);
        x.rains(0, 0, 0);
        x.share(0, 0);
        x.drawn(1, 1, 0);
        x.image(0);
        x.restore(0);
        x.kind(0);
        x.ask(0, 0);
        x.trace(0);
        x.count(0);
        Due.is("SIZE", x.status(), 4);
        Due.read(x, "k1,0;b9;c1;");
        Due.is("behind another castle", x.status(), 4);
    }
}
