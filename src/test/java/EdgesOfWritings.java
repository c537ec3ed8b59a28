/** The edges of promises 22 writings, 23 from, 24 who. */
final class EdgesOfWritings {
    private static final int LEAST = Integer.MIN_VALUE, MOST = Integer.MAX_VALUE;
    private static final int CLERK = 1 << 1, SHORT = 1 << 2, POET = 1 << 3, BOY = 1 << 4, LAWYER = 1 << 5;

    private EdgesOfWritings() {
    }

    static void all() {
        Edge.each(
            EdgesOfWritings::writingsAreOneToFour,
            EdgesOfWritings::writingsOneBehindAnother,
            EdgesOfWritings::writingsInTheFirstWay,
            EdgesOfWritings::writingsWithTheMostThereIs,
            EdgesOfWritings::writingsInNoWay,
            EdgesOfWritings::writingsTellTheKth,
            EdgesOfWritings::writingsAreRefused,
            EdgesOfWritings::writingsWithoutACastle,
            EdgesOfWritings::writingsFindNoRow,
            EdgesOfWritings::writingsFindNoPlace,
            EdgesOfWritings::writingsOfAnItemThatIsNone,
            EdgesOfWritings::fromAllBlocks,
            EdgesOfWritings::fromUpToThirtyLines,
            EdgesOfWritings::fromTheFirst,
            EdgesOfWritings::fromTellsTwo,
            EdgesOfWritings::fromIsRefused,
            EdgesOfWritings::fromWithoutACastle,
            EdgesOfWritings::fromFindsNoRow,
            EdgesOfWritings::fromFindsNoPlace,
            EdgesOfWritings::whoByAllThatIsTold,
            EdgesOfWritings::whoOfOneToEight,
            EdgesOfWritings::whoIsRefused,
            EdgesOfWritings::whoFindsNoRow,
            EdgesOfWritings::whoFindsNoPlace,
            EdgesOfWritings::whoOfAnItemThatIsNone);
    }

    private static void writingsAreOneToFour() {
        Edge.says(22, "WRITINGS: a row tells n (1 to 4) times a clerk and LINES (1 to 30) by turns:");
        ChalkCastle x = Due.of("k1,0;b30;b30;b30;b30;y1;s1;");
        Due.fill(x, 0, 0, 30, 0, 1, 1, 30, 1, 1, 0, 1);
        Due.is("0", x.writings(0, 0, 0, -1), Due.BAD);
        Due.is("1: 30 lines use one up", x.writings(0, 0, 1, -1), 3);
        Due.is("4", x.writings(0, 0, 4, -1), 3);
        Due.is("5", x.writings(0, 0, 5, -1), Due.BAD);
        Due.is("by turns, clerk 1 first", x.writings(0, 4, 2, -1), 4);
        Due.is("all but the first", x.writings(0, 2, 4, -1), 4);
    }

    private static void writingsOneBehindAnother() {
        Edge.says(22, "with which BLOCK each is to be written, one behind another, so that most BLOCKS stand then: "
            + "how many;");
        ChalkCastle x = Due.of("k1,0;b5;b5;b6;r2,0;y1;");
        Due.fill(x, 0, 0, 3, 0, 3, 0, 3, 0, 3);
        Due.is("3", x.writings(0, 0, 1, -1), 3);
        Due.is("3 and 3", x.writings(0, 0, 2, -1), 3);
        Due.is("3, 3 and 3: each with another", x.writings(0, 0, 3, -1), 3);
        Due.is("four: two use 2 up", x.writings(0, 0, 4, -1), 2);
        Due.is("the last with 2 again", x.writings(0, 0, 4, 3), 2);
        x.write(0, 5, 0);
        Due.is("2 fell, it is written with", x.writings(0, 0, 2, -1), 1);
        Due.is("1 is spared or not used up: the first way", x.writings(0, 0, 2, 0), 1);
        Due.is("and then", x.writings(0, 0, 2, 1), 2);
        ChalkCastle y = Due.of("k1,0;b3;b3;y1;");
        Due.fill(y, 0, 0, 3, 0, 3);
        Due.is("a way by which none stands", y.writings(0, 0, 2, -1), 0);
        Due.is("is a way", y.writings(0, 0, 2, 1), 1);
        y.days(1);
        Due.is("today 3 lines take 4", y.writings(0, 0, 1, -1), Due.NONE);
    }

    private static void writingsInTheFirstWay() {
        Edge.says(22, "the k-th's BLOCK in the first such way (by numbers);");
        ChalkCastle x = Due.of("k1,0;b4;b4;b9;r1,0;y1;");
        Due.fill(x, 0, 0, 3, 0, 3, 0, 4);
        Due.is("3: the first", x.writings(0, 0, 1, 0), 0);
        Due.is("4: only 2 stands then", x.writings(0, 4, 1, 0), 2);
        Due.is("3, 3, 4: with 0", x.writings(0, 0, 3, 0), 0);
        Due.is("then with 1", x.writings(0, 0, 3, 1), 1);
        Due.is("then with 2", x.writings(0, 0, 3, 2), 2);
        ChalkCastle y = Due.of("k1,0;b2;b2;b2;y1;");
        Due.fill(y, 0, 0, 2, 0, 1);
        Due.is("the first is used up", y.writings(0, 0, 2, 0), 0);
        Due.is("the second is not", y.writings(0, 0, 2, 1), 1);
        Due.fill(y, 0, 0, 1, 0, 2);
        Due.is("1 with 0, where 2 have then no room", y.writings(0, 0, 2, 0), 0);
        Due.is("so 2 with 1", y.writings(0, 0, 2, 1), 1);
    }

    private static void writingsWithTheMostThereIs() {
        Edge.says(22, "the k-th's BLOCK in the first such way (by numbers);");
        ChalkCastle x = Due.of("k1,0;b3;b3;b3;b3;b5;b5;b5;b9;c9;c9;c9;y1;");
        Due.fill(x, 0, 3, 4, 3, 4, 3, 4, 3, 8);
        Due.is("all eight stand", x.writings(0, 0, 4, -1), 8);
        for (int k = 0; k < 4; k++) {
            Due.is("with " + (4 + k), x.writings(0, 0, 4, k), 4 + k);
        }
    }

    private static void writingsInNoWay() {
        Edge.says(22, "NONE: no way.");
        ChalkCastle x = Due.of("k1,0;b4;b4;y1;");
        Due.fill(x, 0, 0, 3, 0, 3, 0, 1, 0, 2);
        Due.is("3, 3, 1", x.writings(0, 0, 3, -1), 1);
        Due.is("3, 3, 1, 2", x.writings(0, 0, 4, -1), Due.NONE);
        Due.is("no k-th either", x.writings(0, 0, 4, 0), Due.NONE);
        Due.is("status()", x.status(), 0);
        Due.is("all chalk stays", x.stand(2), 8);
    }

    private static void writingsTellTheKth() {
        Edge.says(22, "WRITINGS, 2 n ITEMS of a ROW from i on: how many (k = -1), the k-th (0 on); NONE.");
        ChalkCastle x = Due.of("k1,0;b9;b4;y1;");
        Due.fill(x, 0, 99, 99, 99, 0, 8, 0, 3);
        Due.is("how many", x.writings(0, 3, 2, -1), 2);
        Due.is("the first", x.writings(0, 3, 2, 0), 0);
        Due.is("the second", x.writings(0, 3, 2, 1), 1);
        Due.is("there is no third", x.writings(0, 3, 2, 2), Due.NONE);
        Due.is("nor a last", x.writings(0, 3, 2, MOST), Due.NONE);
        Due.is("of one no second", x.writings(0, 3, 1, 1), Due.NONE);
        for (int lane = 0; lane < 3; lane++) {
            x.row(1, lane, 2);
            x.set(1, 1, 3);
            Due.is("of any lane", x.writings(1, 0, 1, -1), 2);
        }
    }

    private static void writingsAreRefused() {
        Edge.says(22, "BAD: ROW, n, k below -1;");
        ChalkCastle x = Due.of("k1,0;b9;y1;");
        for (int row : new int[] {-1, 8, LEAST, MOST}) {
            Due.is("row " + row, x.writings(row, 0, 1, -1), Due.BAD);
        }
        for (int n : new int[] {-1, 0, 5, LEAST, MOST}) {
            Due.is("ahead of NULL, n " + n, x.writings(0, 0, n, -1), Due.BAD);
        }
        for (int k : new int[] {-2, LEAST}) {
            Due.is("ahead of NULL, k " + k, x.writings(0, 0, 1, k), Due.BAD);
        }
        Due.is("status()", x.status(), 0);
    }

    private static void writingsWithoutACastle() {
        Edge.says(22, "STATE: no CASTLE (ahead of BAD);");
        ChalkCastle x = new ChalkCastle();
        Due.is("no castle", x.writings(0, 0, 1, -1), Due.STATE);
        Due.is("row", x.writings(8, 0, 1, -1), Due.STATE);
        Due.is("n", x.writings(0, 0, 0, -1), Due.STATE);
        Due.is("k", x.writings(0, 0, 1, -2), Due.STATE);
        Due.is("status()", x.status(), 0);
    }

    private static void writingsFindNoRow() {
        Edge.says(22, "NULL;");
        ChalkCastle x = Due.of("k1,0;b9;y1;");
        Due.is("missing", x.writings(7, 0, 1, -1), Due.NULL);
        Due.is("status()", x.status(), 1);
        Due.is("ahead of PLACE", x.writings(7, -1, 4, 9), Due.NULL);
    }

    private static void writingsFindNoPlace() {
        Edge.says(22, "PLACE;");
        ChalkCastle x = Due.of("k1,0;b9;y1;");
        Due.fill(x, 0, 0, 1, 0, 1, 0, 1);
        Due.is("to the end", x.writings(0, 4, 1, 0), 0);
        Due.is("all", x.writings(0, 0, 3, 0), 0);
        int[][] places = {{5, 1}, {6, 1}, {1, 3}, {0, 4}, {-1, 1}, {LEAST, 1}, {MOST, 1}, {MOST, 4}, {MOST - 1, 1}};
        for (int[] p : places) {
            Due.is("i " + p[0] + ", n " + p[1], x.writings(0, p[0], p[1], 0), Due.PLACE);
            Due.is("status()", x.status(), 2);
        }
        x.set(0, 4, 9);
        Due.is("ahead of an item", x.writings(0, 4, 2, 0), Due.PLACE);
        x.row(1, 0, 0);
        Due.is("of none", x.writings(1, 0, 1, 0), Due.PLACE);
    }

    private static void writingsOfAnItemThatIsNone() {
        Edge.says(22, "then BAD: an ITEM that is no clerk, no LINES (1 to 30).");
        ChalkCastle x = Due.of("k1,0;b30;b30;y1;s1;");
        int[][] items = {{-1, 1}, {2, 1}, {4, 1}, {LEAST, 1}, {MOST, 1}, {0, 0}, {0, 31}, {0, -1}, {0, LEAST},
            {0, MOST}};
        for (int[] pair : items) {
            x.row(0, 2, 4);
            x.set(0, 1, 1);
            x.set(0, 2, pair[0]);
            x.set(0, 3, pair[1]);
            Due.is("the last: " + pair[0] + ", " + pair[1], x.writings(0, 0, 2, -1), Due.BAD);
            Due.is("alone: " + pair[0] + ", " + pair[1], x.writings(0, 2, 1, 5), Due.BAD);
            Due.is("the one ahead", x.writings(0, 0, 1, -1), 2);
        }
        x.set(7, 0, 0);
        x.writings(0, 2, 1, -1);
        Due.is("status() stays", x.status(), 1);
        Due.fill(x, 0, 1, 1, 1, 30);
        Due.is("1 and 30", x.writings(0, 0, 2, -1), 2);
        ChalkCastle y = Due.of("k1,0;b30;");
        Due.fill(y, 0, 0, 1);
        Due.is("no clerks", y.writings(0, 0, 1, -1), Due.BAD);
    }

    private static void fromAllBlocks() {
        Edge.says(23, "FROM: a row tells CHALK of all BLOCKS (as many ITEMS as BLOCKS) behind one writing:");
        ChalkCastle x = Due.of("k1,0;b3;b4;b5;r1,0;y1;");
        Due.fill(x, 0, 3, 4, 4);
        Due.is("1 less", x.from(0, 0, 0), 1);
        Due.fill(x, 0, 0, 4, 5);
        Due.is("none left", x.from(0, 0, 0), 1);
        Due.fill(x, 0, 3, 4, 5);
        Due.is("none is less", x.from(0, 0, 0), 0);
        Due.fill(x, 0, 2, 3, 5);
        Due.is("two are less", x.from(0, 0, 0), 0);
        Due.fill(x, 0, 2, 5, 5);
        Due.is("one is less, one more", x.from(0, 0, 0), 0);
        Due.fill(x, 0, 3, 5, 5);
        Due.is("one is more", x.from(0, 0, 0), 0);
        Due.fill(x, 0, 3, 4, -1);
        Due.is("fewer than none", x.from(0, 0, 0), 0);
        Due.fill(x, 0, LEAST, 4, 5);
        Due.is("far fewer than none", x.from(0, 0, 0), 0);
        Due.fill(x, 0, MOST, 4, 5);
        Due.is("far more", x.from(0, 0, 0), 0);
        x.write(0, 3, 0);
        Due.fill(x, 0, 0, 3, 5);
        Due.is("of a fallen one", x.from(0, 0, 0), 1);
        x.days(1);
        Due.is("no line takes 1 today", x.from(0, 0, 0), 0);
    }

    private static void fromUpToThirtyLines() {
        Edge.says(23, "ways (a clerk, LINES 1 to 30, a BLOCK) by which it is so: how many;");
        ChalkCastle x = Due.of("k1,0;b30;s1;y1;y9;");
        Due.fill(x, 0, 15, 14, 29, 0);
        Due.is("15: 29 and 30 lines, and by two boys", x.from(0, 0, 0), 4);
        Due.is("16: 31 and 32 are none", x.from(0, 1, 0), 2);
        Due.is("1: 1 and 2 lines, and by two boys", x.from(0, 2, 0), 4);
        Due.is("30: by two boys", x.from(0, 3, 0), 2);
        ChalkCastle y = Due.of("k1,0;b30;");
        Due.fill(y, 0, 29);
        Due.is("no clerks", y.from(0, 0, 0), 0);
    }

    private static void fromTheFirst() {
        Edge.says(23, "the first (10 times the clerk and the BLOCK; by clerks, then BLOCKS); NONE.");
        ChalkCastle x = Due.of("k1,0;b9;b9;b9;b9;b9;b9;b9;b9;p9;c3;c5;y1;");
        Due.fill(x, 0, 9, 9, 9, 9, 9, 9, 9, 8);
        Due.is("clerk 3, block 7", x.from(0, 0, 1), 37);
        x.set(0, 7, 6);
        Due.is("clerk 1 ahead of 3", x.from(0, 0, 1), 17);
        x.set(0, 7, 4);
        Due.is("clerk 2 ahead of 3", x.from(0, 0, 1), 27);
        x.set(0, 7, 9);
        Due.is("NONE", x.from(0, 0, 1), Due.NONE);
        Due.is("how many", x.from(0, 0, 0), 0);
        x.set(0, 0, 6);
        Due.is("clerk 1, block 0", x.from(0, 0, 1), 10);
        ChalkCastle y = Due.of("k1,0;b9;b9;y1;");
        Due.fill(y, 0, 8, 9);
        Due.is("clerk 0, block 0", y.from(0, 0, 1), 0);
    }

    private static void fromTellsTwo() {
        Edge.says(23, "FROM, as many ITEMS as BLOCKS of a ROW from i on: how many (what = 0), the first (1; NONE).");
        ChalkCastle x = Due.of("k1,0;b9;b9;p1;y1;");
        Due.fill(x, 0, 99, 9, 8, 99);
        Due.is("how many", x.from(0, 1, 0), 1);
        Due.is("the first", x.from(0, 1, 1), 11);
        Due.is("none: how many", x.from(0, 0, 0), 0);
        Due.is("none: the first", x.from(0, 0, 1), Due.NONE);
        Due.is("status()", x.status(), 0);
    }

    private static void fromIsRefused() {
        Edge.says(23, "BAD: ROW, what;");
        ChalkCastle x = Due.of("k1,0;b9;y1;");
        for (int row : new int[] {-1, 8, LEAST, MOST}) {
            Due.is("row " + row, x.from(row, 0, 0), Due.BAD);
        }
        for (int what : new int[] {-1, 2, LEAST, MOST}) {
            Due.is("ahead of NULL, what " + what, x.from(0, 0, what), Due.BAD);
        }
        Due.is("status()", x.status(), 0);
    }

    private static void fromWithoutACastle() {
        Edge.says(23, "STATE: no CASTLE (ahead of BAD);");
        ChalkCastle x = new ChalkCastle();
        Due.is("no castle", x.from(0, 0, 0), Due.STATE);
        Due.is("row", x.from(-1, 0, 0), Due.STATE);
        Due.is("what", x.from(0, 0, 2), Due.STATE);
        Due.is("status()", x.status(), 0);
    }

    private static void fromFindsNoRow() {
        Edge.says(23, "NULL;");
        ChalkCastle x = Due.of("k1,0;b9;y1;");
        Due.is("missing", x.from(7, 0, 0), Due.NULL);
        Due.is("status()", x.status(), 1);
        Due.is("ahead of PLACE", x.from(7, -1, 1), Due.NULL);
    }

    private static void fromFindsNoPlace() {
        Edge.says(23, "PLACE.");
        ChalkCastle x = Due.of("k1,0;b9;b9;y1;");
        Due.fill(x, 0, 9, 9, 8);
        Due.is("to the end", x.from(0, 1, 0), 1);
        for (int i : new int[] {2, 3, 40, -1, LEAST, MOST, MOST - 1}) {
            Due.is("i " + i, x.from(0, i, 0), Due.PLACE);
            Due.is("status()", x.status(), 2);
        }
        x.row(0, 0, 1);
        Due.is("fewer items than blocks", x.from(0, 0, 0), Due.PLACE);
        x.row(0, 0, 0);
        Due.is("of none", x.from(0, 0, 0), Due.PLACE);
    }

    private static void whoByAllThatIsTold() {
        Edge.says(24, "WHO: a row tells LINES and what CHALK they took,");
        ChalkCastle x = Due.of("k1,0;b9;c1;y9;");
        Due.fill(x, 0, 1, 1, 1, 2, 2, 2, 30, 270, 30, 135, 29, 131, 30, 540, 30, 30, 30, 39);
        Due.is("hand 1, 1 line, 1: three kinds", x.who(0, 0, 0, 1), CLERK | SHORT | BOY);
        Due.is("hand 1, 1 line, 2", x.who(0, 0, 2, 1), POET | LAWYER);
        Due.is("both: none", x.who(0, 0, 0, 2), 0);
        Due.is("hand 9: a clerk", x.who(1, 0, 6, 1), CLERK);
        Due.is("a short one", x.who(1, 0, 8, 1), SHORT);
        Due.is("a short one, what is odd", x.who(1, 0, 8, 2), SHORT);
        Due.is("a poet", x.who(1, 0, 12, 1), POET);
        Due.is("a boy", x.who(1, 0, 14, 1), BOY);
        Due.is("a lawyer", x.who(1, 0, 16, 1), LAWYER);
        Edge.says(24, "today: KINDS (bits 1 to 5) of a clerk by which it is so.");
        x.days(9);
        Due.is("a boy on DAY 9", x.who(1, 0, 16, 1), BOY);
        Due.is("a lawyer no more", x.who(1, 0, 14, 1), 0);
        x.days(1);
        Due.is("a boy on DAY 10", x.who(1, 0, 16, 1), BOY);
        Due.is("one who has no such kind, too", x.who(0, 0, 16, 1), BOY);
    }

    private static void whoOfOneToEight() {
        Edge.says(24, "n (1 to 8) times by turns,");
        ChalkCastle x = Due.of("k1,0;b9;c2;");
        Due.fill(x, 0, 1, 2, 2, 4, 3, 6, 4, 8, 5, 10, 6, 12, 7, 14, 8, 16, 9, 18);
        Due.is("0", x.who(0, 0, 0, 0), Due.BAD);
        Due.is("8", x.who(0, 0, 0, 8), CLERK);
        Due.is("9", x.who(0, 0, 0, 9), Due.BAD);
        x.set(0, 15, 17);
        Due.is("7", x.who(0, 0, 0, 7), CLERK);
        Due.is("8, the last is otherwise", x.who(0, 0, 0, 8), 0);
        Edge.says(24, "WHO, 2 n ITEMS of a ROW from i on.");
        Due.is("from the last on", x.who(0, 0, 16, 1), CLERK);
        Due.is("from 1 on: 2 lines took 2, 4 took 3", x.who(0, 0, 1, 2), 0);
    }

    private static void whoIsRefused() {
        Edge.says(24, "BAD: CLERK, ROW, n;");
        ChalkCastle x = Due.of("k1,0;b9;c2;y1;");
        for (int clerk : new int[] {-1, 2, 4, LEAST, MOST}) {
            Due.is("clerk " + clerk, x.who(clerk, 0, 0, 1), Due.BAD);
        }
        for (int row : new int[] {-1, 8, LEAST, MOST}) {
            Due.is("row " + row, x.who(0, row, 0, 1), Due.BAD);
        }
        for (int n : new int[] {-1, 0, 9, LEAST, MOST}) {
            Due.is("ahead of NULL, n " + n, x.who(0, 0, 0, n), Due.BAD);
        }
        Due.is("status()", x.status(), 0);
        Due.is("no castle", new ChalkCastle().who(0, 0, 0, 1), Due.BAD);
    }

    private static void whoFindsNoRow() {
        Edge.says(24, "NULL;");
        ChalkCastle x = Due.of("k1,0;b9;c2;");
        Due.is("missing", x.who(0, 7, 0, 1), Due.NULL);
        Due.is("status()", x.status(), 1);
        Due.is("ahead of PLACE", x.who(0, 7, -1, 8), Due.NULL);
    }

    private static void whoFindsNoPlace() {
        Edge.says(24, "PLACE;");
        ChalkCastle x = Due.of("k1,0;b9;c2;");
        Due.fill(x, 0, 1, 2, 2, 4, 3, 6);
        Due.is("to the end", x.who(0, 0, 4, 1), CLERK);
        Due.is("all", x.who(0, 0, 0, 3), CLERK);
        int[][] places = {{5, 1}, {6, 1}, {1, 3}, {0, 4}, {0, 8}, {-1, 1}, {LEAST, 1}, {MOST, 1}, {MOST, 8}};
        for (int[] p : places) {
            Due.is("i " + p[0] + ", n " + p[1], x.who(0, 0, p[0], p[1]), Due.PLACE);
            Due.is("status()", x.status(), 2);
        }
        x.set(0, 4, 0);
        Due.is("ahead of an item", x.who(0, 0, 4, 2), Due.PLACE);
    }

    private static void whoOfAnItemThatIsNone() {
        Edge.says(24, "then BAD: an ITEM that is no LINES (1 to 30) where it ought to be.");
        ChalkCastle x = Due.of("k1,0;b9;c2;");
        for (int lines : new int[] {0, 31, -1, LEAST, MOST}) {
            Due.fill(x, 0, 1, 2, lines, 2);
            x.set(7, 0, 0);
            Due.is("the last: " + lines, x.who(0, 0, 0, 2), Due.BAD);
            Due.is("alone: " + lines, x.who(0, 0, 2, 1), Due.BAD);
            Due.is("status() stays", x.status(), 1);
            Due.is("the one ahead", x.who(0, 0, 0, 1), CLERK);
        }
        for (int chalk : new int[] {0, 31, -1, LEAST, MOST}) {
            Due.fill(x, 0, 1, chalk);
            Due.is("CHALK may be any: " + chalk, x.who(0, 0, 0, 1), 0);
            Due.is("status()", x.status(), 0);
        }
        Due.fill(x, 0, 30, 60);
        Due.is("30", x.who(0, 0, 0, 1), CLERK);
    }
}
