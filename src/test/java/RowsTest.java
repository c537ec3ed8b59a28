/** Promises 2 row, 3 set, 4 copy, 5 drop, and 37 status for these. */
public final class RowsTest {
    public static void main(String[] args) {
        makesRows();
        setsItems();
        copiesItems();
        dropsRows();
        keepsStatus();
        Due.end("RowsTest");
    }

    private static void makesRows() {
        ChalkCastle x = new ChalkCastle();
        Due.is("row of 40", x.row(0, 0, 40), 40);
        Due.is("row of 0", x.row(7, 2, 0), 0);
        Due.is("a row of 0 is there", x.count(0), 2);
        Due.is("row 8", x.row(8, 0, 1), Due.BAD);
        Due.is("row -1", x.row(-1, 0, 1), Due.BAD);
        Due.is("lane 3", x.row(0, 3, 1), Due.BAD);
        Due.is("lane -1", x.row(0, -1, 1), Due.BAD);
        Due.is("41 items", x.row(0, 0, 41), Due.BAD);
        Due.is("most items", x.row(0, 0, Integer.MAX_VALUE), Due.BAD);
        Due.is("fewer than none", x.row(0, 0, -1), Due.SIZE);
        Due.is("far fewer than none", x.row(0, 0, Integer.MIN_VALUE), Due.SIZE);
        Due.is("BAD ahead of SIZE", x.row(0, 3, -1), Due.BAD);
        Due.is("what was refused stays", x.set(0, 39, 5), 5);
        Due.is("in place of what is there", x.row(0, 1, 3), 3);
        Due.is("no more places", x.set(0, 3, 5), Due.PLACE);
        Due.is("rows there", x.count(0), 2);
    }

    private static void setsItems() {
        ChalkCastle x = new ChalkCastle();
        x.row(0, 0, 2);
        x.row(1, 1, 2);
        x.row(2, 2, 2);
        Due.is("byte 127", x.set(0, 0, 127), 127);
        Due.is("byte 128", x.set(0, 0, 128), -128);
        Due.is("byte 511", x.set(0, 1, 511), -1);
        Due.is("byte 256", x.set(0, 1, 256), 0);
        Due.is("short 32767", x.set(1, 0, 32767), 32767);
        Due.is("short 32768", x.set(1, 0, 32768), -32768);
        Due.is("short -65536 + 7", x.set(1, 0, -65529), 7);
        Due.is("int least", x.set(2, 1, Integer.MIN_VALUE), Integer.MIN_VALUE);
        Due.is("place 2", x.set(2, 2, 1), Due.PLACE);
        Due.is("place -1", x.set(2, -1, 1), Due.PLACE);
        Due.is("missing", x.set(3, -1, 1), Due.NULL);
        Due.is("row 8", x.set(8, 0, 1), Due.BAD);
        Due.is("row -1", x.set(-1, 0, 1), Due.BAD);
    }

    private static void copiesItems() {
        // What was copied is seen by who: LINES and CHALK of a boy on DAY 0 are the same.
        ChalkCastle x = Due.of("k1,0;b1;y9;");
        Due.fill(x, 0, 1, 1, 2, 2, 3, 3);
        Due.is("over itself, up", x.copy(0, 0, 0, 2, 4), 4);
        Due.is("1 1 1 1 2 2 fits", x.who(0, 0, 0, 3), 1 << 4);
        Due.fill(x, 0, 1, 5, 2, 2, 3, 3);
        Due.is("over itself, down", x.copy(0, 2, 0, 0, 4), 4);
        Due.is("2 2 3 3 3 3 fits", x.who(0, 0, 0, 3), 1 << 4);
        Due.fill(x, 1, 7, 7);
        Due.is("to another", x.copy(0, 0, 1, 0, 2), 2);
        Due.is("2 2 there", x.who(0, 1, 0, 1), 1 << 4);
        Due.is("none at the ends", x.copy(0, 6, 1, 2, 0), 0);
        Due.is("none beyond an end", x.copy(0, 7, 1, 2, 0), Due.PLACE);
        Due.is("none beyond the other", x.copy(0, 6, 1, 3, 0), Due.PLACE);
        Due.is("beyond a's end", x.copy(0, 5, 1, 0, 2), Due.PLACE);
        Due.is("beyond b's end", x.copy(0, 0, 1, 1, 2), Due.PLACE);
        Due.is("i below 0", x.copy(0, -1, 1, 0, 1), Due.PLACE);
        Due.is("j below 0", x.copy(0, 0, 1, -1, 1), Due.PLACE);
        Due.is("n below 0", x.copy(0, 0, 1, 0, -1), Due.PLACE);
        Due.is("far beyond", x.copy(0, Integer.MAX_VALUE, 1, 0, Integer.MAX_VALUE), Due.PLACE);
        Due.is("far below", x.copy(0, 0, 1, 0, Integer.MIN_VALUE), Due.PLACE);
        x.row(2, 1, 2);
        Due.is("two lanes", x.copy(0, 0, 2, 0, 1), Due.STORE);
        Due.is("two lanes ahead of a place", x.copy(2, 9, 0, 0, 1), Due.STORE);
        Due.is("none of two lanes", x.copy(0, 0, 2, 0, 0), Due.STORE);
        Due.is("a missing", x.copy(3, 9, 2, 0, 1), Due.NULL);
        Due.is("b missing", x.copy(2, 9, 3, 0, 1), Due.NULL);
        Due.is("a is none", x.copy(8, 0, 3, 0, 1), Due.BAD);
        Due.is("b is none", x.copy(3, 0, -1, 0, 1), Due.BAD);
        Due.is("nothing came to b", x.who(0, 1, 0, 1), 1 << 4);
    }

    private static void dropsRows() {
        ChalkCastle x = new ChalkCastle();
        x.row(4, 0, 11);
        Due.is("drop", x.drop(4), 11);
        Due.is("missing then", x.set(4, 0, 0), Due.NULL);
        Due.is("drop again", x.drop(4), Due.NULL);
        Due.is("none there", x.count(0), 0);
        x.row(4, 0, 0);
        Due.is("drop one of 0", x.drop(4), 0);
        Due.is("row 8", x.drop(8), Due.BAD);
        Due.is("row -1", x.drop(-1), Due.BAD);
    }

    private static void keepsStatus() {
        ChalkCastle x = new ChalkCastle();
        Due.is("at first", x.status(), 0);
        x.drop(0);
        Due.is("NULL", x.status(), 1);
        x.drop(9);
        x.feed(300);
        x.rain();
        x.writings(0, 0, 1, 0);
        Due.is("refused calls change it not", x.status(), 1);
        x.row(0, 0, 3);
        Due.is("none", x.status(), 0);
        x.set(0, 3, 0);
        Due.is("PLACE", x.status(), 2);
        Due.is("status leaves itself", x.status(), 2);
        x.row(1, 0, -5);
        Due.is("SIZE", x.status(), 4);
        x.row(1, 1, 5);
        x.copy(0, 0, 1, 0, 1);
        Due.is("STORE", x.status(), 5);
        x.count(0);
        x.feed('k');
        x.castle();
        Due.is("calls without a row change it not", x.status(), 5);
        x.set(0, 0, 0);
        Due.is("set clears it", x.status(), 0);
        x.set(2, 0, 0);
        x.copy(0, 0, 0, 0, 0);
        Due.is("copy clears it", x.status(), 0);
        x.set(2, 0, 0);
        x.drop(0);
        Due.is("drop clears it", x.status(), 0);
    }
}
