/** The edges of promises 1 (a new object), 2 row, 3 set, 4 copy, 5 drop. */
final class EdgesOfRows {
    private static final int[] NO_ROWS = {-1, 8, Integer.MIN_VALUE, Integer.MAX_VALUE};

    /** One block of 1 and a boy: from tells whether an item is 0, who whether two items are alike. */
    private static final String LOOKING = "k1,0;b1;y1;";

    private EdgesOfRows() {
    }

    static void all() {
        Edge.each(
            EdgesOfRows::aNewObjectHasNoCastle,
            EdgesOfRows::numbersGoFromZeroOn,
            EdgesOfRows::rowsAreMissingAtFirst,
            EdgesOfRows::rowsHaveOneOfThreeLanes,
            EdgesOfRows::rowsHaveUpToFortyItems,
            EdgesOfRows::itemsAreZeroAtFirst,
            EdgesOfRows::rowComesInPlaceOfWhatIsThere,
            EdgesOfRows::rowIsRefused,
            EdgesOfRows::rowOfFewerThanNone,
            EdgesOfRows::setKeepsTheLowestBits,
            EdgesOfRows::setIsRefused,
            EdgesOfRows::setFindsNoRow,
            EdgesOfRows::setFindsNoPlace,
            EdgesOfRows::copyIsAsItemsWereAhead,
            EdgesOfRows::copyOfNone,
            EdgesOfRows::copyIsRefused,
            EdgesOfRows::copyFindsNoRow,
            EdgesOfRows::copyFindsTwoLanes,
            EdgesOfRows::copyFindsNoPlace,
            EdgesOfRows::dropTellsHowManyItems,
            EdgesOfRows::dropIsRefused,
            EdgesOfRows::dropFindsNoRow);
    }

    private static void isZero(ChalkCastle x, int row, int i) {
        Due.is("item " + i + " of row " + row + " is 0", x.from(row, i, 0), 1);
    }

    /** Row 7 is used to look. */
    private static void isItem(ChalkCastle x, int row, int lane, int i, int v) {
        x.row(7, lane, 2);
        x.copy(row, i, 7, 0, 1);
        x.set(7, 1, v);
        // v lines take v by a clerk and by a boy; 1 line takes 1 by a short one, too.
        Due.is("item " + i + " of row " + row + " is " + v, x.who(0, 7, 0, 1), v == 1 ? 22 : 18);
    }

    private static void areItems(ChalkCastle x, int row, int... items) {
        for (int i = 0; i < items.length; i++) {
            isItem(x, row, 2, i, items[i]);
        }
    }

    private static void aNewObjectHasNoCastle() {
        Edge.says(1, "No CASTLE.");
        ChalkCastle x = new ChalkCastle();
        for (int what = 0; what < 8; what++) {
            Due.is("count(" + what + ")", x.count(what), 0);
        }
        Due.is("rain()", x.rain(), Due.STATE);
        Due.is("stand(0)", x.stand(0), Due.STATE);
        Due.is("must()", x.must(), Due.STATE);
        Due.is("image(0)", x.image(0), Due.STATE);
        Due.is("undo()", x.undo(), Due.STATE);
        Due.is("restore(0)", x.restore(0), Due.STATE);
        Due.is("block(0, 0)", x.block(0, 0), Due.BAD);
        Due.is("clerk(0, 0)", x.clerk(0, 0), Due.BAD);
        Due.is("fault()", x.fault(), 0);
        Due.is("status()", x.status(), 0);
        Due.is("trace(0)", x.trace(0), Due.NONE);
        Due.is("of two objects one is told a castle", Due.of("k1,0;b1;").count(1), 1);
        Due.is("the other has none", x.count(1), 0);
    }

    private static void numbersGoFromZeroOn() {
        Edge.says(1, "Numbers go from 0 on.");
        ChalkCastle x = Due.of("k1,0;b2;b3;c4;s5;");
        Due.is("block 0", x.block(0, 0), 2);
        Due.is("block 1", x.block(1, 0), 3);
        Due.is("block 2", x.block(2, 0), Due.BAD);
        Due.is("clerk 0", x.clerk(0, 0), 4);
        Due.is("clerk 1", x.clerk(1, 0), 5);
        Due.is("clerk 2", x.clerk(2, 0), Due.BAD);
        Due.is("row 0", x.row(0, 0, 1), 1);
        Due.is("item 0", x.set(0, 0, 7), 7);
        Due.is("item 1 of 1", x.set(0, 1, 7), Due.PLACE);
    }

    private static void rowsAreMissingAtFirst() {
        Edge.says(2, "ROWS 0 .. 7 are missing (at first)");
        ChalkCastle x = new ChalkCastle();
        for (int row = 0; row < 8; row++) {
            Due.is("set of row " + row, x.set(row, 0, 0), Due.NULL);
        }
        for (int row = 0; row < 8; row++) {
            Due.is("row " + row, x.row(row, 0, row), row);
            Due.is("rows there", x.count(0), row + 1);
        }
        Due.is("row 8", x.row(8, 0, 0), Due.BAD);
        Due.is("rows there", x.count(0), 8);
    }

    private static void rowsHaveOneOfThreeLanes() {
        Edge.says(2, ", or have a LANE (0 bytes, 1 shorts, 2 ints)");
        ChalkCastle x = new ChalkCastle();
        for (int lane = 0; lane < 3; lane++) {
            Due.is("lane " + lane, x.row(lane, lane, 1), 1);
        }
        Due.is("a byte", x.set(0, 0, 0x12345678), 0x78);
        Due.is("a short", x.set(1, 0, 0x12345678), 0x5678);
        Due.is("an int", x.set(2, 0, 0x12345678), 0x12345678);
    }

    private static void rowsHaveUpToFortyItems() {
        Edge.says(2, " and 0 to 40 ITEMS");
        ChalkCastle x = new ChalkCastle();
        Due.is("of 0", x.row(0, 2, 0), 0);
        Due.is("it is there", x.count(0), 1);
        Due.is("it has no place", x.set(0, 0, 1), Due.PLACE);
        Due.is("of 40", x.row(1, 2, 40), 40);
        Due.is("its last place", x.set(1, 39, 1), 1);
        Due.is("one beyond", x.set(1, 40, 1), Due.PLACE);
        Due.is("of 41", x.row(2, 2, 41), Due.BAD);
    }

    private static void itemsAreZeroAtFirst() {
        Edge.says(2, ", 0 at first.");
        ChalkCastle x = Due.of(LOOKING);
        for (int lane = 0; lane < 3; lane++) {
            x.row(lane, lane, 40);
            for (int i = 0; i < 40; i++) {
                isZero(x, lane, i);
            }
        }
    }

    private static void rowComesInPlaceOfWhatIsThere() {
        Edge.says(2, "A ROW of a LANE with n ITEMS, in place of what is there: n.");
        ChalkCastle x = Due.of(LOOKING);
        x.row(3, 2, 40);
        x.set(3, 0, 5);
        x.set(3, 1, 6);
        Due.is("row", x.row(3, 0, 2), 2);
        isZero(x, 3, 0);
        isZero(x, 3, 1);
        Due.is("of the new lane", x.set(3, 1, 257), 1);
        Due.is("of the new size", x.set(3, 2, 0), Due.PLACE);
        Due.is("the same once more", x.row(3, 0, 2), 2);
        isZero(x, 3, 1);
        Due.is("rows there", x.count(0), 1);
    }

    private static void rowIsRefused() {
        Edge.says(2, "BAD: ROW, LANE, n above 40;");
        ChalkCastle x = Due.of(LOOKING);
        Due.fill(x, 0, 3, 4);
        for (int row : NO_ROWS) {
            Due.is("row " + row, x.row(row, 0, 1), Due.BAD);
        }
        for (int lane : new int[] {-1, 3, Integer.MIN_VALUE, Integer.MAX_VALUE}) {
            Due.is("lane " + lane, x.row(0, lane, 1), Due.BAD);
        }
        for (int n : new int[] {41, Integer.MAX_VALUE}) {
            Due.is("n " + n, x.row(0, 0, n), Due.BAD);
        }
        Due.is("a row that is none, of fewer than none", x.row(8, 0, -1), Due.BAD);
        Due.is("a lane that is none, of fewer than none", x.row(0, 3, -1), Due.BAD);
        Due.is("status()", x.status(), 0);
        Due.is("rows there", x.count(0), 1);
        areItems(x, 0, 3, 4);
    }

    private static void rowOfFewerThanNone() {
        Edge.says(2, "SIZE.");
        ChalkCastle x = Due.of(LOOKING);
        Due.fill(x, 0, 3, 4);
        Due.is("-1", x.row(0, 0, -1), Due.SIZE);
        Due.is("status()", x.status(), 4);
        Due.is("least of all", x.row(0, 0, Integer.MIN_VALUE), Due.SIZE);
        areItems(x, 0, 3, 4);
        Due.is("a missing one", x.row(1, 0, -1), Due.SIZE);
        Due.is("stays missing", x.set(1, 0, 0), Due.NULL);
        Due.is("none is not fewer", x.row(1, 0, 0), 0);
    }

    private static void setKeepsTheLowestBits() {
        Edge.says(3, "ITEM i becomes v, its lowest bits, as many as the LANE has: what it is then.");
        ChalkCastle x = Due.of(LOOKING);
        for (int lane = 0; lane < 3; lane++) {
            x.row(lane, lane, 3);
        }
        int[][] bytes = {{127, 127}, {128, -128}, {255, -1}, {256, 0}, {257, 1}, {-128, -128}, {-129, 127},
            {-1, -1}, {-256, 0}, {Integer.MAX_VALUE, -1}, {Integer.MIN_VALUE, 0}};
        for (int[] pair : bytes) {
            Due.is("byte " + pair[0], x.set(0, 1, pair[0]), pair[1]);
        }
        int[][] shorts = {{32767, 32767}, {32768, -32768}, {65535, -1}, {65536, 0}, {-32768, -32768},
            {-32769, 32767}, {-65536, 0}, {Integer.MAX_VALUE, -1}, {Integer.MIN_VALUE, 0}};
        for (int[] pair : shorts) {
            Due.is("short " + pair[0], x.set(1, 1, pair[0]), pair[1]);
        }
        for (int v : new int[] {0, -1, Integer.MAX_VALUE, Integer.MIN_VALUE}) {
            Due.is("int " + v, x.set(2, 1, v), v);
        }
        x.set(0, 1, 256 + 9);
        isItem(x, 0, 0, 1, 9);
        x.set(1, 1, 65536 + 9);
        isItem(x, 1, 1, 1, 9);
        isZero(x, 0, 0);
        isZero(x, 0, 2);
    }

    private static void setIsRefused() {
        Edge.says(3, "BAD: ROW;");
        ChalkCastle x = new ChalkCastle();
        for (int row : NO_ROWS) {
            Due.is("row " + row, x.set(row, -1, 0), Due.BAD);
        }
        Due.is("status()", x.status(), 0);
    }

    private static void setFindsNoRow() {
        Edge.says(3, "NULL;");
        ChalkCastle x = new ChalkCastle();
        x.row(0, 0, 1);
        Due.is("a missing one", x.set(7, 0, 0), Due.NULL);
        Due.is("status()", x.status(), 1);
        Due.is("ahead of PLACE", x.set(7, -1, 0), Due.NULL);
        Due.is("it stays missing", x.count(0), 1);
    }

    private static void setFindsNoPlace() {
        Edge.says(3, "PLACE.");
        ChalkCastle x = Due.of(LOOKING);
        Due.fill(x, 0, 3, 4);
        for (int i : new int[] {-1, 2, 40, Integer.MIN_VALUE, Integer.MAX_VALUE}) {
            Due.is("place " + i, x.set(0, i, 9), Due.PLACE);
            Due.is("status()", x.status(), 2);
        }
        Due.is("the last place", x.set(0, 1, 9), 9);
        areItems(x, 0, 3, 9);
    }

    private static void copyIsAsItemsWereAhead() {
        Edge.says(4, "n ITEMS of a from i on come to b from j on, as they were ahead: n.");
        ChalkCastle x = Due.of(LOOKING);
        Due.fill(x, 0, 1, 2, 3, 4, 5);
        Due.is("up, over itself", x.copy(0, 0, 0, 1, 4), 4);
        areItems(x, 0, 1, 1, 2, 3, 4);
        Due.fill(x, 0, 1, 2, 3, 4, 5);
        Due.is("down, over itself", x.copy(0, 1, 0, 0, 4), 4);
        areItems(x, 0, 2, 3, 4, 5, 5);
        Due.is("all of it to itself", x.copy(0, 0, 0, 0, 5), 5);
        areItems(x, 0, 2, 3, 4, 5, 5);
        Due.fill(x, 1, 7, 8, 9);
        Due.is("the last of a to the last of b", x.copy(0, 4, 1, 2, 1), 1);
        areItems(x, 1, 7, 8, 5);
        Due.is("as much as b has", x.copy(0, 1, 1, 0, 3), 3);
        areItems(x, 1, 3, 4, 5);
        areItems(x, 0, 2, 3, 4, 5, 5);
        x.set(0, 1, 30);
        isItem(x, 1, 2, 0, 3);
    }

    private static void copyOfNone() {
        Edge.says(4, "n ITEMS of a from i on come to b from j on, as they were ahead: n.");
        ChalkCastle x = Due.of(LOOKING);
        Due.fill(x, 0, 1, 2);
        x.row(1, 2, 0);
        Due.is("none", x.copy(0, 0, 0, 1, 0), 0);
        Due.is("none, at both ends", x.copy(0, 2, 0, 2, 0), 0);
        Due.is("none, of a row that has none", x.copy(1, 0, 0, 2, 0), 0);
        Due.is("none, to a row that has none", x.copy(0, 2, 1, 0, 0), 0);
        areItems(x, 0, 1, 2);
    }

    private static void copyIsRefused() {
        Edge.says(4, "BAD: ROWS;");
        ChalkCastle x = new ChalkCastle();
        x.row(0, 0, 2);
        for (int row : NO_ROWS) {
            Due.is("a " + row, x.copy(row, 0, 0, 0, 1), Due.BAD);
            Due.is("b " + row, x.copy(0, 0, row, 0, 1), Due.BAD);
            Due.is("b " + row + " ahead of a that is missing", x.copy(1, 0, row, 0, 1), Due.BAD);
            Due.is("a " + row + " ahead of b that is missing", x.copy(row, 0, 1, 0, 1), Due.BAD);
        }
        Due.is("status()", x.status(), 0);
    }

    private static void copyFindsNoRow() {
        Edge.says(4, "NULL;");
        ChalkCastle x = new ChalkCastle();
        x.row(0, 0, 2);
        Due.is("a is missing", x.copy(1, 0, 0, 0, 1), Due.NULL);
        Due.is("status()", x.status(), 1);
        Due.is("b is missing", x.copy(0, 0, 1, 0, 1), Due.NULL);
        Due.is("both are", x.copy(1, 0, 2, 0, 1), Due.NULL);
        Due.is("none of a missing one", x.copy(1, 0, 0, 0, 0), Due.NULL);
        Due.is("ahead of PLACE", x.copy(0, -1, 1, -1, -1), Due.NULL);
    }

    private static void copyFindsTwoLanes() {
        Edge.says(4, "STORE;");
        ChalkCastle x = Due.of(LOOKING);
        for (int lane = 0; lane < 3; lane++) {
            x.row(lane, lane, 2);
        }
        for (int a = 0; a < 3; a++) {
            for (int b = 0; b < 3; b++) {
                Due.is("lane " + a + " to lane " + b, x.copy(a, 0, b, 0, 2), a == b ? 2 : Due.STORE);
                Due.is("status()", x.status(), a == b ? 0 : 5);
            }
        }
        x.set(0, 0, 9);
        Due.is("none of two lanes", x.copy(0, 0, 2, 0, 0), Due.STORE);
        Due.is("ahead of PLACE", x.copy(0, -1, 2, 0, 1), Due.STORE);
        Due.is("one", x.copy(0, 0, 2, 0, 1), Due.STORE);
        isZero(x, 2, 0);
    }

    private static void copyFindsNoPlace() {
        Edge.says(4, "PLACE (i, j, n below 0, or beyond an end).");
        ChalkCastle x = Due.of(LOOKING);
        Due.fill(x, 0, 1, 2, 3);
        Due.fill(x, 1, 4, 5);
        int most = Integer.MAX_VALUE;
        int least = Integer.MIN_VALUE;
        int[][] places = {{-1, 0, 1}, {0, -1, 1}, {0, 0, -1}, {3, 0, 1}, {2, 0, 2}, {0, 2, 1}, {0, 1, 2}, {0, 0, 3},
            {4, 0, 0}, {0, 3, 0}, {-1, 0, 0}, {0, -1, 0}, {most, 0, 1}, {0, most, 1}, {0, 0, most},
            {most, most, most}, {1, 1, most}, {least, 0, 1}, {0, least, 1}, {0, 0, least}, {most, 0, least},
            {2, 0, least}, {1, 0, most}};
        for (int[] p : places) {
            Due.is("i " + p[0] + ", j " + p[1] + ", n " + p[2], x.copy(0, p[0], 1, p[1], p[2]), Due.PLACE);
            Due.is("status()", x.status(), 2);
        }
        areItems(x, 0, 1, 2, 3);
        areItems(x, 1, 4, 5);
    }

    private static void dropTellsHowManyItems() {
        Edge.says(5, "A ROW is missing from now on: how many ITEMS it had.");
        ChalkCastle x = Due.of(LOOKING);
        x.row(0, 0, 0);
        x.row(7, 1, 40);
        x.set(7, 0, 5);
        Due.is("of 0", x.drop(0), 0);
        Due.is("of 40", x.drop(7), 40);
        Due.is("missing", x.set(7, 0, 0), Due.NULL);
        Due.is("rows there", x.count(0), 0);
        Due.is("made anew", x.row(7, 1, 1), 1);
        isZero(x, 7, 0);
    }

    private static void dropIsRefused() {
        Edge.says(5, "BAD;");
        ChalkCastle x = new ChalkCastle();
        x.row(0, 0, 1);
        for (int row : NO_ROWS) {
            Due.is("row " + row, x.drop(row), Due.BAD);
        }
        Due.is("rows there", x.count(0), 1);
        Due.is("status()", x.status(), 0);
    }

    private static void dropFindsNoRow() {
        Edge.says(5, "NULL.");
        ChalkCastle x = new ChalkCastle();
        x.row(2, 0, 3);
        Due.is("missing at first", x.drop(1), Due.NULL);
        Due.is("status()", x.status(), 1);
        x.drop(2);
        Due.is("dropped ahead", x.drop(2), Due.NULL);
        Due.is("status()", x.status(), 1);
    }
}
