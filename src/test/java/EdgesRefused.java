/** The edges of what is said of all refusals: their order, their numbers, and that they change nothing. */
final class EdgesRefused {
    private EdgesRefused() {
    }

    static void all() {
        Edge.each(
            EdgesRefused::theFirstThatFits,
            EdgesRefused::findingsComeBehind,
            EdgesRefused::findingsInTime,
            EdgesRefused::findingsHaveNumbers,
            EdgesRefused::whatIsRefusedChangesNothing,
            EdgesRefused::whatIsFoundChangesNothing);
    }

    /** One block of 9 with DUST 3, a boy and a clerk; row 0 has 2 items. */
    private static ChalkCastle some() {
        ChalkCastle x = Due.of("k1,5;b9;b9;r1,0;y1;c2;");
        x.write(0, 3, 0);
        x.row(0, 0, 2);
        x.row(1, 1, 2);
        return x;
    }

    private static void theFirstThatFits() {
        Edge.says(0, "Refusals are answers, the first of these that fits, but as told: "
            + "BAD (a number is not as told; there is no such thing), STATE (as told), FULL (as told),");
        ChalkCastle x = some();
        Due.is("promise 10 write, BAD ahead of STATE", x.write(1, 31, 0), Due.BAD);
        Due.is("promise 10 write, STATE", x.write(1, 30, 0), Due.STATE);
        Due.is("promise 11 rub, BAD ahead of STATE", x.rub(61, 0), Due.BAD);
        Due.is("promise 11 rub, STATE", x.rub(60, 0), Due.STATE);
        Due.is("promise 31 restore, BAD ahead of STATE", x.restore(2), Due.BAD);
        Due.is("promise 31 restore, STATE", x.restore(1), Due.STATE);
        ChalkCastle none = new ChalkCastle();
        Due.is("promise 30 image, BAD ahead of STATE", none.image(2), Due.BAD);
        Due.is("promise 30 image, STATE", none.image(1), Due.STATE);
        Due.is("promise 13 days, STATE ahead of BAD, as told", none.days(0), Due.STATE);
        for (int i = 0; i < 120; i++) {
            none.feed(0);
        }
        Due.is("promise 6 feed, BAD ahead of FULL", none.feed(256), Due.BAD);
        Due.is("promise 6 feed, FULL", none.feed(255), Due.FULL);
    }

    private static void findingsComeBehind() {
        Edge.says(0, "then FINDINGS,");
        ChalkCastle x = some();
        Due.is("promise 2 row, BAD ahead of SIZE", x.row(0, 3, -1), Due.BAD);
        Due.is("promise 3 set, BAD ahead of NULL", x.set(8, 0, 0), Due.BAD);
        Due.is("promise 4 copy, BAD ahead of NULL", x.copy(5, 0, 8, 0, 0), Due.BAD);
        Due.is("promise 5 drop, BAD ahead of NULL", x.drop(8), Due.BAD);
        Due.is("promise 22 writings, BAD ahead of NULL", x.writings(5, 0, 5, 0), Due.BAD);
        Due.is("promise 23 from, BAD ahead of NULL", x.from(5, 0, 2), Due.BAD);
        Due.is("promise 24 who, BAD ahead of NULL", x.who(2, 5, 0, 1), Due.BAD);
        Due.is("promise 33 as, BAD ahead of KIND", x.as(2, 5), Due.BAD);
        ChalkCastle none = new ChalkCastle();
        Due.is("promise 22 writings, STATE ahead of NULL", none.writings(5, 0, 1, 0), Due.STATE);
        Due.is("promise 23 from, STATE ahead of NULL", none.from(5, 0, 0), Due.STATE);
    }

    private static void findingsInTime() {
        Edge.says(0, " of several the first in time:");
        ChalkCastle x = some();
        Due.is("promise 3 set, NULL ahead of PLACE", x.set(5, -1, 0), Due.NULL);
        Due.is("promise 4 copy, NULL ahead of PLACE", x.copy(0, 9, 5, 9, -1), Due.NULL);
        Due.is("promise 4 copy, STORE ahead of PLACE", x.copy(0, 9, 1, 9, -1), Due.STORE);
        Due.is("promise 4 copy, PLACE", x.copy(0, 9, 0, 9, -1), Due.PLACE);
        Due.is("promise 22 writings, NULL ahead of PLACE", x.writings(5, 9, 1, 0), Due.NULL);
        Due.is("promise 23 from, NULL ahead of PLACE", x.from(5, 9, 0), Due.NULL);
        Due.is("promise 24 who, NULL ahead of PLACE", x.who(0, 5, 9, 1), Due.NULL);
        Due.is("promise 22 writings, PLACE ahead of an ITEM", x.writings(0, 0, 2, 0), Due.PLACE);
        Due.is("promise 24 who, PLACE ahead of an ITEM", x.who(0, 0, 0, 2), Due.PLACE);
    }

    private static void findingsHaveNumbers() {
        ChalkCastle x = some();
        Edge.says(37, "-1000010 less 1 NULL (a ROW that is missing),");
        Due.is("set", x.set(5, 0, 0), -1000011);
        Due.is("status()", x.status(), 1);
        Edge.says(37, "2 PLACE (no such place of a ROW),");
        Due.is("set", x.set(0, 2, 0), -1000012);
        Due.is("status()", x.status(), 2);
        Edge.says(37, "3 KIND (a CLERK that is not that),");
        Due.is("as", x.as(0, 1), -1000013);
        Due.is("status()", x.status(), 3);
        Edge.says(37, "4 SIZE (fewer than none),");
        Due.is("row", x.row(0, 0, -1), -1000014);
        Due.is("status()", x.status(), 4);
        Edge.says(37, "5 STORE (ROWS of two LANES).");
        Due.is("copy", x.copy(0, 0, 1, 0, 1), -1000015);
        Due.is("status()", x.status(), 5);
    }

    private static void refused(ChalkCastle x, String before, String call, long answer, long due) {
        Due.is(call, answer, due);
        Due.is("status() behind " + call, x.status(), 1);
        Due.holds("nothing changes by " + call, before.equals(Due.seen(x)));
    }

    private static void whatIsRefusedChangesNothing() {
        Edge.says(0, "What is refused, or found, changes nothing but status().");
        ChalkCastle x = some();
        x.ask(0, 1);
        x.set(5, 0, 0);
        String s = Due.seen(x);
        refused(x, s, "promise 2 row", x.row(0, 0, 41), Due.BAD);
        refused(x, s, "promise 3 set", x.set(8, 0, 9), Due.BAD);
        refused(x, s, "promise 4 copy", x.copy(0, 0, 8, 0, 1), Due.BAD);
        refused(x, s, "promise 5 drop", x.drop(-1), Due.BAD);
        refused(x, s, "promise 6 feed", x.feed(256), Due.BAD);
        refused(x, s, "promise 10 write", x.write(0, 31, 0), Due.BAD);
        refused(x, s, "promise 10 write", x.write(0, 30, 0), Due.STATE);
        ChalkCastle y = some();
        y.ask(0, 1);
        y.set(5, 0, 0);
        refused(y, s, "promise 11 rub", y.rub(0, 0), Due.BAD);
        refused(y, s, "promise 11 rub", y.rub(4, 0), Due.STATE);
        refused(y, s, "promise 13 days", y.days(0), Due.BAD);
        refused(y, s, "promise 30 image", y.image(2), Due.BAD);
        refused(y, s, "promise 31 restore", y.restore(2), Due.BAD);
        refused(y, s, "promise 31 restore", y.restore(0), Due.STATE);
        refused(y, s, "promise 34 ask", y.ask(0, 2), Due.BAD);
        refused(y, s, "promise 34 ask", y.ask(2, 0), Due.BAD);
    }

    private static void whatIsFoundChangesNothing() {
        Edge.says(0, "What is refused, or found, changes nothing but status().");
        ChalkCastle x = some();
        x.set(0, 0, 1);
        x.set(0, 1, 1);
        String before = Due.seen(x);
        Due.is("promise 2 row", x.row(0, 2, -1), Due.SIZE);
        Due.is("promise 3 set", x.set(0, 2, 7), Due.PLACE);
        Due.is("promise 4 copy", x.copy(0, 0, 0, 1, 2), Due.PLACE);
        Due.is("promise 4 copy", x.copy(1, 0, 0, 0, 1), Due.STORE);
        Due.is("promise 5 drop", x.drop(5), Due.NULL);
        Due.is("promise 33 as", x.as(0, 1), Due.KIND);
        Due.is("status()", x.status(), 3);
        Due.holds("nothing else changes", before.equals(Due.seen(x)));
        Due.is("the items of row 0 are 1 and 1 yet", x.who(0, 0, 0, 1), 22);
    }
}
