/** The edges of promises 6 feed, 7 castle, 8 fault. */
final class EdgesOfTexts {
    private static final String EIGHT = "k1,0;b1;b2;b3;b4;b5;b6;b7;b8;";
    private static final String TWELVE = "r1,0;r2,0;r3,0;r4,0;r5,0;r6,0;r7,0;r7,1;r7,2;r7,3;r7,4;r7,5;";
    private static final String FOUR = "c1;s2;p3;y4;";

    private EdgesOfTexts() {
    }

    static void all() {
        Edge.each(
            EdgesOfTexts::feedTakesBytes,
            EdgesOfTexts::feedIsRefused,
            EdgesOfTexts::feedIsFull,
            EdgesOfTexts::theTapeHasBytes,
            EdgesOfTexts::theTapeIsEmptyThen,
            EdgesOfTexts::theTapeIsEmptyAtFirst,
            EdgesOfTexts::lettersStandByThemselves,
            EdgesOfTexts::numbersHaveTwoFigures,
            EdgesOfTexts::signsAreTwo,
            EdgesOfTexts::partsComeInOrder,
            EdgesOfTexts::rainIsOneToNine,
            EdgesOfTexts::rubsAreOfTen,
            EdgesOfTexts::chalkIsOneToThirty,
            EdgesOfTexts::blocksAreEightAtMost,
            EdgesOfTexts::oneRestsOnALesserOne,
            EdgesOfTexts::noTwoRestsAreAlike,
            EdgesOfTexts::restsAreTwelveAtMost,
            EdgesOfTexts::sortsAreFive,
            EdgesOfTexts::handIsOneToNine,
            EdgesOfTexts::clerksAreFourAtMost,
            EdgesOfTexts::castleStandsInPlaceOfTheOneBefore,
            EdgesOfTexts::castleBeginsAnew,
            EdgesOfTexts::castleTellsBlocks,
            EdgesOfTexts::allStaysAtAFault,
            EdgesOfTexts::theFirstTokenWithAFault,
            EdgesOfTexts::theLeastFaultOfAToken,
            EdgesOfTexts::whatCannotStandThere,
            EdgesOfTexts::threeFiguresAtTheFirst,
            EdgesOfTexts::theEndIsAPlace,
            EdgesOfTexts::numbersNotAsTold,
            EdgesOfTexts::noMoreRoom,
            EdgesOfTexts::theLatestFault,
            EdgesOfTexts::noFaultBeforeOne);
    }

    private static void reads(String text, int blocks) {
        ChalkCastle x = new ChalkCastle();
        Due.is("castle() of " + text, Due.read(x, text), blocks);
        Due.is("fault() of " + text, x.fault(), 0);
        Due.is("blocks of " + text, x.count(1), blocks);
    }

    private static void feedTakesBytes() {
        Edge.says(6, "A byte (0 to 255) comes behind the tape: how many it has.");
        ChalkCastle x = new ChalkCastle();
        Due.is("0", x.feed(0), 1);
        Due.is("255", x.feed(255), 2);
        Due.is("a third", x.feed('k'), 3);
        Due.is("bytes", x.count(7), 3);
        Due.is("the first byte is the first token's", x.castle(), -1000100);
    }

    private static void feedIsRefused() {
        Edge.says(6, "BAD;");
        ChalkCastle x = new ChalkCastle();
        for (int letter : new int[] {-1, 256, 'k' + 256, 'k' - 256, Integer.MIN_VALUE, Integer.MAX_VALUE}) {
            Due.is("feed(" + letter + ")", x.feed(letter), Due.BAD);
            Due.is("bytes", x.count(7), 0);
        }
        Due.is("what is fed then is the first", Due.read(x, "k1,0;b1;"), 1);
    }

    private static void feedIsFull() {
        Edge.says(6, "FULL.");
        ChalkCastle x = new ChalkCastle();
        for (int i = 1; i <= 120; i++) {
            Due.is("byte " + i, x.feed('k'), i);
        }
        Due.is("byte 121", x.feed('k'), Due.FULL);
        Due.is("BAD ahead of FULL", x.feed(-1), Due.BAD);
        Due.is("BAD ahead of FULL", x.feed(256), Due.BAD);
        Due.is("bytes", x.count(7), 120);
        x.castle();
        Due.is("there is room again", x.feed('k'), 1);
    }

    private static void theTapeHasBytes() {
        Edge.says(6, "TEXTS: THE TAPE has at most 120 bytes, that come one by one;");
        String text = "k1,0;b01;b02;b03;b04;b05;b06;b07;b08;r1,0;r2,0;r3,0;r4,0;r5,0;r6,0;r7,0;r7,1;r7,2;r7,3;r7,4;"
            + "r7,5;c09;s08;p07;y6;";
        String full = text.replace("r1,0;", "r01,00;").replace("r2,0;", "r02,00;").replace("r3,0;", "r03,00;")
            .replace("r4,0;", "r04,00;");
        Due.is("bytes of the text", full.length(), 120);
        ChalkCastle x = new ChalkCastle();
        Due.is("a text of 120", Due.read(x, full), 8);
        Due.is("all of it is read", x.kind(3), 4);
        String more = full.replace("r5,0;", "r05,0;");
        for (int i = 0; i < more.length(); i++) {
            Due.is("byte " + i, x.feed(more.charAt(i)), i < 120 ? i + 1 : Due.FULL);
        }
        Due.is("what is beyond is not read", x.castle(), -1000220);
    }

    private static void theTapeIsEmptyThen() {
        Edge.says(7, "The tape, empty then, is read");
        ChalkCastle x = new ChalkCastle();
        Due.read(x, "k1,0;b1;b12;b30;");
        Due.is("bytes behind a castle", x.count(7), 0);
        Due.is("nothing of it is left", Due.read(x, "k1,0;b1;b1"), -1000110);
        Due.is("bytes behind a fault", x.count(7), 0);
        Due.is("read from its first byte on", Due.read(x, "k1,0;b1;"), 1);
    }

    private static void theTapeIsEmptyAtFirst() {
        Edge.says(7, "The tape, empty then, is read");
        ChalkCastle x = new ChalkCastle();
        Due.is("an empty one", x.castle(), -1000100);
        Due.is("fault()", x.fault(), 1);
        Due.is("again", x.castle(), -1000100);
    }

    private static void lettersStandByThemselves() {
        Edge.says(7, "TOKENS: letters a to z (each by itself)");
        Due.fault("k1,0;b1;cc1;", 1, 9);
        Due.fault("kk1,0;b1;", 1, 1);
        Due.fault("k1,0;bb1;", 1, 6);
        for (char letter : new char[] {'K', '`', '{', 'k' + 128}) {
            Due.fault(letter + "1,0;b1;", 1, 0);
        }
        for (char letter : new char[] {'B', 'C', 'Y', '@', '[', '`', '{', 'b' + 128}) {
            Due.fault("k1,0;b1;" + letter + "1;", 1, 8);
        }
    }

    private static void numbersHaveTwoFigures() {
        Edge.says(7, "NUMBERS (figures, 2 at most)");
        reads("k9,9;b9;", 1);
        reads("k09,09;b09;b09;r01,00;c09;", 2);
        Due.fault("k009,0;b1;", 1, 1);
        Due.fault("k1,000;b1;", 1, 3);
        Due.fault("k1,0;b001;", 1, 6);
        Due.fault("k1,0;b1;b1;r001,0;", 1, 12);
        Due.fault("k1,0;b1;b1;r1,000;", 1, 14);
        Due.fault("k1,0;b1;c001;", 1, 9);
        for (char letter : new char[] {'/', ':', '-', '+', '.', '0' + 128}) {
            Due.fault("k" + letter + ",0;b1;", 1, 1);
            Due.fault("k1" + letter + ",0;b1;", 1, 2);
        }
    }

    private static void signsAreTwo() {
        Edge.says(7, "SIGNS , and ; nothing else.");
        for (char letter : new char[] {' ', 0, '\n', '.', ':', '-', '+', '<', 127, 255}) {
            Due.fault("k1" + letter + "0;b1;", 1, 2);
            Due.fault("k1,0" + letter + "b1;", 1, 4);
            Due.fault(letter + "k1,0;b1;", 1, 0);
            Due.fault("k1,0;b1;" + letter, 1, 8);
        }
        Due.fault("k1;0;b1;", 1, 2);
        Due.fault("k1,0,b1;", 1, 4);
    }

    private static void partsComeInOrder() {
        Edge.says(7, "castle: law block { block } { rest } { clerk }.");
        reads("k1,0;b1;", 1);
        reads("k1,0;b1;b1;", 2);
        reads("k1,0;b1;b1;r1,0;", 2);
        reads("k1,0;b1;c1;", 1);
        reads("k1,0;b1;b1;r1,0;c1;", 2);
        Due.fault("b1;", 1, 0);
        Due.fault("k1,0;", 1, 5);
        Due.fault("k1,0;r1,0;", 1, 5);
        Due.fault("k1,0;c1;", 1, 5);
        Due.fault("k1,0;k1,0;b1;", 1, 5);
        Due.fault("k1,0;b1;k1,0;", 1, 8);
        Due.fault("k1,0;b1;b1;r1,0;b1;", 1, 16);
        Due.fault("k1,0;b1;b1;c1;r1,0;", 1, 14);
        Due.fault("k1,0;b1;c1;b1;", 1, 11);
        Due.fault("k1,0;b1;;", 1, 8);
        Due.fault("k1,0;b1;1", 1, 8);
    }

    private static void rainIsOneToNine() {
        Edge.says(7, "law: k RAIN , RUBS ; (1 to 9;");
        reads("k1,0;b1;", 1);
        reads("k9,0;b1;", 1);
        Due.is("rain of 1", leftByRain("k1,0;b30;"), 29);
        Due.is("rain of 9", leftByRain("k9,0;b30;"), 21);
        Due.fault("k0,0;b1;", 2, 1);
        Due.fault("k00,0;b1;", 2, 1);
        Due.fault("k10,0;b1;", 2, 1);
    }

    private static int leftByRain(String text) {
        ChalkCastle x = Due.of(text);
        x.rain();
        return x.block(0, 0);
    }

    private static void rubsAreOfTen() {
        Edge.says(7, "0 to 10: of 10).");
        reads("k1,0;b1;", 1);
        reads("k1,10;b1;", 1);
        Due.fault("k1,11;b1;", 2, 3);
        Due.fault("k1,99;b1;", 2, 3);
        for (int rubs = 0; rubs <= 10; rubs++) {
            ChalkCastle x = Due.of("k1," + rubs + ";b20;y1;");
            x.write(0, 10, 0);
            Due.is("10 by " + rubs + " of 10", x.rub(10, 0), 10 + rubs);
        }
    }

    private static void chalkIsOneToThirty() {
        Edge.says(7, "block: b CHALK ; (1 to 30;");
        Due.is("1", Due.of("k1,0;b1;").block(0, 0), 1);
        Due.is("30", Due.of("k1,0;b30;").block(0, 0), 30);
        Due.fault("k1,0;b0;", 2, 6);
        Due.fault("k1,0;b31;", 2, 6);
        Due.fault("k1,0;b1;b00;", 2, 9);
        Due.fault("k1,0;b1;b99;", 2, 9);
    }

    private static void blocksAreEightAtMost() {
        Edge.says(7, "BLOCKS 0 .. 7, 8 at most).");
        ChalkCastle x = Due.of(EIGHT);
        Due.is("blocks", x.count(1), 8);
        for (int b = 0; b < 8; b++) {
            Due.is("chalk of " + b, x.block(b, 0), b + 1);
        }
        Due.is("block 8", x.block(8, 0), Due.BAD);
        Due.fault(EIGHT + "b9;", 3, 29);
    }

    private static void oneRestsOnALesserOne() {
        Edge.says(7, "rest: r A , B ; (A rests on B; BLOCKS, B less than A;");
        ChalkCastle x = Due.of(EIGHT + "r7,6;r1,0;r7,0;");
        Due.is("7 rests on", x.block(7, 2), 1 << 6 | 1);
        Due.is("1 rests on", x.block(1, 2), 1);
        Due.is("0 rests on", x.block(0, 2), 0);
        Due.fault(EIGHT + "r8,0;", 2, 30);
        Due.fault("k1,0;b1;b1;r2,0;", 2, 12);
        Due.fault("k1,0;b1;b1;r1,1;", 2, 14);
        Due.fault("k1,0;b1;b1;r1,2;", 2, 14);
        Due.fault("k1,0;b1;b1;r0,0;", 2, 14);
        Due.fault("k1,0;b1;b1;r0,1;", 2, 14);
        Due.fault("k1,0;b1;r0,0;", 2, 11);
    }

    private static void noTwoRestsAreAlike() {
        Edge.says(7, "no two alike;");
        Due.fault("k1,0;b1;b1;r1,0;r1,0;", 2, 19);
        Due.fault("k1,0;b1;b1;r1,0;r01,00;", 2, 20);
        Due.fault("k1,0;b1;b1;b1;r2,0;r2,1;r1,0;r2,0;", 2, 32);
        Due.fault("k1,0;b1;b1;b1;r2,0;r2,1;r1,0;r2,1;", 2, 32);
        Due.fault(EIGHT + "r7,6;r7,0;r7,6;", 2, 42);
        reads("k1,0;b1;b1;b1;r2,0;r2,1;r1,0;", 3);
    }

    private static void restsAreTwelveAtMost() {
        Edge.says(7, "12 at most).");
        Due.is("rests", Due.of(EIGHT + TWELVE).count(2), 12);
        Due.fault(EIGHT + TWELVE + "r7,6;", 3, 89);
        ChalkCastle x = Due.of(EIGHT + TWELVE + FOUR);
        Due.is("clerks behind them", x.count(3), 4);
        Due.is("7 rests on", x.block(7, 2), 63);
    }

    private static void sortsAreFive() {
        Edge.says(7, "clerk: SORT HAND ; (SORT: c a clerk, s a short one, p a poet, y a boy, l a lawyer;");
        for (char sort = 'a'; sort <= 'z'; sort++) {
            String text = "k1,0;b1;b1;r1,0;" + sort + "3;";
            int kind = "cspyl".indexOf(sort) + 1;
            if (kind > 0) {
                Due.is("kind of " + sort, Due.of(text).kind(0), kind);
            } else if (sort != 'r') {
                Due.fault(text, 1, 16);
            }
        }
    }

    private static void handIsOneToNine() {
        Edge.says(7, "l a lawyer; 1 to 9;");
        for (char sort : "cspyl".toCharArray()) {
            Due.is("1", Due.of("k1,0;b1;" + sort + "1;").clerk(0, 0), 1);
            Due.is("9", Due.of("k1,0;b1;" + sort + "9;").clerk(0, 0), 9);
            Due.fault("k1,0;b1;" + sort + "0;", 2, 9);
            Due.fault("k1,0;b1;" + sort + "10;", 2, 9);
        }
    }

    private static void clerksAreFourAtMost() {
        Edge.says(7, "CLERKS 0 .. 3, 4 at most).");
        ChalkCastle x = Due.of("k1,0;b1;" + FOUR);
        Due.is("clerks", x.count(3), 4);
        for (int c = 0; c < 4; c++) {
            Due.is("hand of " + c, x.clerk(c, 0), c + 1);
        }
        Due.is("clerk 4", x.clerk(4, 0), Due.BAD);
        for (char sort : "cspyl".toCharArray()) {
            Due.fault("k1,0;b1;" + FOUR + sort + "1;", 3, 20);
        }
    }

    private static void castleStandsInPlaceOfTheOneBefore() {
        Edge.says(7, "A CASTLE that is read stands in place of the one before (none at first):");
        ChalkCastle x = new ChalkCastle();
        Due.is("none at first", x.count(1), 0);
        Due.is("the most", Due.read(x, EIGHT + TWELVE + FOUR), 8);
        x.row(4, 0, 3);
        x.ask(0, 0);
        x.set(5, 0, 0);
        Due.is("the fewest", Due.read(x, "k2,0;b7;"), 1);
        Due.is("blocks", x.count(1), 1);
        Due.is("rests", x.count(2), 0);
        Due.is("clerks", x.count(3), 0);
        Due.is("all chalk", x.stand(2), 7);
        Due.is("no block 1", x.block(1, 0), Due.BAD);
        Due.is("no clerk 0", x.clerk(0, 0), Due.BAD);
        Due.is("nothing rests on 0", x.block(0, 3), 0);
        x.rain();
        Due.is("the new law", x.block(0, 0), 5);
        Due.is("no more than the castle: status()", x.status(), 1);
        Due.is("no more than the castle: THE TRACE", x.trace(0), 11);
        Due.is("no more than the castle: ROWS", x.drop(4), 3);
    }

    private static void castleBeginsAnew() {
        Edge.says(7, "DAY 0, all BLOCKS stand, no LINES, no DUST; no ACT can be undone.");
        ChalkCastle x = Due.of("k1,0;b9;b1;r1,0;y1;");
        x.write(0, 9, 0);
        x.days(3);
        Due.is("nothing stands", x.stand(0), 0);
        Due.is("the same again", Due.read(x, "k1,0;b9;b1;r1,0;y1;"), 2);
        Due.is("DAY", x.count(4), 0);
        Due.is("all stand", x.stand(0), 3);
        Due.is("LINES", x.stand(4), 0);
        Due.is("LINES of the clerk", x.clerk(0, 1), 0);
        Due.is("DUST", x.stand(3), 0);
        Due.is("ACTS", x.count(6), 0);
        Due.is("undo()", x.undo(), Due.STATE);
    }

    private static void castleTellsBlocks() {
        Edge.says(7, ": how many BLOCKS there are.");
        Due.is("1", Due.read(new ChalkCastle(), "k1,0;b1;"), 1);
        Due.is("8", Due.read(new ChalkCastle(), EIGHT), 8);
    }

    private static void allStaysAtAFault() {
        Edge.says(7, "-1000100 less the place of a FAULT: all stays.");
        ChalkCastle x = Due.of("k3,5;b9;b8;r1,0;c2;");
        x.write(0, 2, 1);
        x.days(1);
        x.ask(0, 0);
        x.image(0);
        x.row(0, 0, 3);
        x.set(1, 0, 0);
        String before = Due.seen(x);
        for (String text : new String[] {"", "k9,9;b1;b1;b1;r2,0;l9;!", "k9,9;b0;", EIGHT + "b1;"}) {
            int place = text.equals(EIGHT + "b1;") ? 29 : text.endsWith("!") ? 22 : text.isEmpty() ? 0 : 6;
            Due.is("castle() of " + text, Due.read(x, text), -1000100 - place);
            String then = Due.seen(x);
            Due.holds("all stays: " + then, before.regionMatches(0, then, 0, before.length() - 1));
        }
        Due.is("status()", x.status(), 1);
        Due.is("acts can be undone yet", x.undo(), 1);
        x.rain();
        Due.is("the law stays", x.block(1, 0), 1);
        Due.is("the image stays", x.restore(0), 1);
        Due.is("as it was", x.block(1, 0), 4);
    }

    private static void theFirstTokenWithAFault() {
        Edge.says(7, "FAULTS, the first TOKEN that has one (its first byte)");
        Due.fault("k0,0;b0;!", 2, 1);
        Due.fault("k1,99;!", 2, 3);
        Due.fault("!k0,0;", 1, 0);
        Due.fault("k1,0;b31;b;", 2, 6);
        Due.fault("k1,0;b;b31;", 1, 6);
        Due.fault(EIGHT + "b99;", 3, 29);
        Due.fault("k1,0;b99" + "!", 2, 6);
        Due.fault("k1,0;b1;b1;r5,7;", 2, 12);
    }

    private static void theLeastFaultOfAToken() {
        Edge.says(7, ", of one TOKEN the least: ");
        Due.fault("k1,0;b100;", 1, 6);
        Due.fault("k1,0;b1;99", 1, 8);
        Due.fault(EIGHT + "r1,0;b1;", 1, 34);
        Due.fault(EIGHT + "c1;b1;", 1, 32);
        Due.fault(EIGHT + TWELVE + "c1;r7,6;", 1, 92);
    }

    private static void whatCannotStandThere() {
        Edge.says(7, "1 it cannot stand there, or is none");
        Due.fault("k,0;b1;", 1, 1);
        Due.fault("k1,;b1;", 1, 3);
        Due.fault("k1,0;b;", 1, 6);
        Due.fault("k1,0;b1,", 1, 7);
        Due.fault("k1,0;b1;a", 1, 8);
        Due.fault("k1,0;b1;z", 1, 8);
        Due.fault("k1,0;b1;?", 1, 8);
        Due.fault("k1,0;b1;b1;r,0;", 1, 12);
        Due.fault("k1,0;b1;b1;r1;0;", 1, 13);
        Due.fault("k1,0;b1;b1;r1,;", 1, 14);
        Due.fault("k1,0;b1;b1;r1,0,", 1, 15);
        Due.fault("k1,0;b1;c;", 1, 9);
        Due.fault("k1,0;b1;c1,", 1, 10);
        Due.fault("k1,0;b1;c1;;", 1, 11);
    }

    private static void threeFiguresAtTheFirst() {
        Edge.says(7, "(a run of three figures, at its first;");
        Due.fault("k001,0;b1;", 1, 1);
        Due.fault("k1,0;b1;b1;r100,0;", 1, 12);
        Due.fault("k1,0;b1;123;", 1, 8);
        Due.fault("k1,0;b1234;", 1, 6);
        Due.fault("k1,0;b123456;", 1, 6);
        Due.fault("k1,0;b4294967297;", 1, 6);
    }

    private static void theEndIsAPlace() {
        Edge.says(7, "the end: how many bytes there are);");
        String text = "k1,0;b1;b2;r1,0;c1;";
        for (int n = 0; n <= text.length(); n++) {
            boolean whole = n == 8 || n == 11 || n == 16 || n == 19;
            if (whole) {
                reads(text.substring(0, n), n == 8 ? 1 : 2);
            } else {
                Due.fault(text.substring(0, n), 1, n);
            }
        }
    }

    private static void numbersNotAsTold() {
        Edge.says(7, "2 a NUMBER that is not as told;");
        Due.fault("k00", 2, 1);
        Due.fault("k1,11", 2, 3);
        Due.fault("k1,0;b00", 2, 6);
        Due.fault("k1,0;b31", 2, 6);
        Due.fault("k1,0;b1;b1;r2", 2, 12);
        Due.fault("k1,0;b1;b1;r1,1", 2, 14);
        Due.fault("k1,0;b1;b1;r1,0;r1,0", 2, 19);
        Due.fault("k1,0;b1;l10", 2, 9);
    }

    private static void noMoreRoom() {
        Edge.says(7, "3 a block, a rest, a clerk more than there is room for (its letter).");
        Due.fault(EIGHT + "b", 3, 29);
        Due.fault(EIGHT + "b0;", 3, 29);
        Due.fault(EIGHT + TWELVE + "r", 3, 89);
        Due.fault(EIGHT + TWELVE + "r1,0;", 3, 89);
        Due.fault(EIGHT + FOUR + "c", 3, 41);
        Due.fault(EIGHT + FOUR + "l0;", 3, 41);
        Due.fault(EIGHT + TWELVE + FOUR + "y1;", 3, 101);
    }

    private static void theLatestFault() {
        Edge.says(8, "The number of the latest FAULT;");
        ChalkCastle x = new ChalkCastle();
        Due.read(x, EIGHT + "b1;");
        Due.is("3", x.fault(), 3);
        Due.read(x, "k0");
        Due.is("2", x.fault(), 2);
        Due.read(x, "!");
        Due.is("1", x.fault(), 1);
        Due.read(x, "k0");
        Due.is("a castle", Due.read(x, "k1,0;b1;"), 1);
        Due.is("it is the latest yet", x.fault(), 2);
    }

    private static void noFaultBeforeOne() {
        Edge.says(8, "0 before one.");
        ChalkCastle x = new ChalkCastle();
        Due.is("at first", x.fault(), 0);
        x.feed(-1);
        x.rain();
        x.set(0, 0, 0);
        Due.is("a refusal is none", x.fault(), 0);
        Due.is("a castle", Due.read(x, "k1,0;b1;"), 1);
        Due.is("behind a castle", x.fault(), 0);
    }
}
