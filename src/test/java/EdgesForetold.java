/** The edges of promises 18 wouldFall, 19 left, 20 leastFallen, 21 must, 25 layer, 26 longest. */
final class EdgesForetold {
    private static final int LEAST = Integer.MIN_VALUE, MOST = Integer.MAX_VALUE;
    private static final String EIGHT = "k1,0;b30;b30;b30;b30;b30;b30;b30;b30;";

    private EdgesForetold() {
    }

    static void all() {
        Edge.each(
            EdgesForetold::nothingChanges,
            EdgesForetold::whatStandsNowWouldFall,
            EdgesForetold::wouldFallIsRefused,
            EdgesForetold::wouldFallWithoutACastle,
            EdgesForetold::leftOneAtATime,
            EdgesForetold::leftIsRefused,
            EdgesForetold::leastFallenForUpTo240,
            EdgesForetold::leastFallenOfWhatStandsNow,
            EdgesForetold::noToldOneFalls,
            EdgesForetold::allButOneIsEnough,
            EdgesForetold::theFewestDoNotStandThen,
            EdgesForetold::theLeastOfSeveralSets,
            EdgesForetold::leastFallenTellsTwo,
            EdgesForetold::leastFallenIsRefused,
            EdgesForetold::leastFallenWithoutACastle,
            EdgesForetold::mustIsMoreThanHalf,
            EdgesForetold::mustIsOfWhatStands,
            EdgesForetold::mustWithoutACastle,
            EdgesForetold::layerIsOneMoreThanTheGreatest,
            EdgesForetold::layerIsRefused,
            EdgesForetold::longestIsUpToThirty,
            EdgesForetold::longestIsWithTheFirst,
            EdgesForetold::longestIsRefused);
    }

    private static void nothingChanges() {
        Edge.says(18, "FORETOLD (nothing changes).");
        ChalkCastle x = Due.of("k2,5;b9;b5;b1;r1,0;y1;c2;");
        x.write(0, 4, 0);
        x.days(1);
        x.ask(0, 0);
        Due.fill(x, 0, 0, 1, 1, 1);
        String before = Due.seen(x);
        x.wouldFall(7);
        x.left(0);
        x.leastFallen(9, 1, 1);
        x.must();
        x.writings(0, 0, 2, 0);
        x.from(0, 0, 1);
        x.who(0, 0, 2, 1);
        x.layer(1);
        x.longest(0, 1);
        x.rains(1, 5, 1);
        x.share(0, 1);
        x.drawn(60, 7, 0);
        x.image(0);
        Due.holds("nothing changes", before.equals(Due.seen(x)));
        Due.is("writings twice is the same", x.writings(0, 0, 2, 1), x.writings(0, 0, 2, 1));
        Due.is("drawn twice is the same", x.drawn(9, 7, 1), x.drawn(9, 7, 1));
    }

    private static void whatStandsNowWouldFall() {
        Edge.says(18, "WOULD FALL, were told BLOCKS without CHALK: BLOCKS (bits) that stand now and would not then.");
        ChalkCastle x = Due.of("k1,0;b3;b3;b3;b3;b3;r2,0;r2,1;r3,2;y1;");
        Due.is("none told", x.wouldFall(0), 0);
        Due.is("one of two that bear", x.wouldFall(1), 1);
        Due.is("both that bear", x.wouldFall(3), 15);
        Due.is("one that bears alone", x.wouldFall(4), 12);
        Due.is("all", x.wouldFall(31), 31);
        x.write(0, 3, 0);
        Due.is("one that has none now", x.wouldFall(1), 0);
        Due.is("the other bears alone now", x.wouldFall(2), 14);
        x.write(0, 3, 2);
        Due.is("one that fell ahead", x.wouldFall(8), 0);
        Due.is("all: those that stand now", x.wouldFall(31), 18);
    }

    private static void wouldFallIsRefused() {
        Edge.says(18, "WOULD FALL. BAD;");
        ChalkCastle x = Due.of("k1,0;b3;b3;");
        for (int blocks : new int[] {4, 5, 128, 256, -1, LEAST, MOST}) {
            Due.is("blocks " + blocks, x.wouldFall(blocks), Due.BAD);
        }
        Due.is("the most", x.wouldFall(3), 3);
        Due.is("the most of eight", Due.of(EIGHT).wouldFall(255), 255);
        Due.is("one above of eight", Due.of(EIGHT).wouldFall(256), Due.BAD);
    }

    private static void wouldFallWithoutACastle() {
        Edge.says(18, "STATE: no CASTLE (ahead of BAD).");
        for (int blocks : new int[] {0, 1, -1, 256}) {
            Due.is("blocks " + blocks, new ChalkCastle().wouldFall(blocks), Due.STATE);
        }
    }

    private static void leftOneAtATime() {
        Edge.says(19, "LEFT for a clerk: how many LINES he can write yet today, one at a time, with any BLOCKS "
            + "(each wholly with one).");
        ChalkCastle x = Due.of("k1,0;b2;b2;b5;r2,0;c3;s1;y1;c9;");
        Due.is("what is over is not put together", x.left(0), 1);
        Due.is("a short one: each line takes 1", x.left(1), 9);
        Due.is("a boy on DAY 0", x.left(2), 9);
        Due.is("no line", x.left(3), 0);
        x.days(1);
        Due.is("a boy today: each takes 2", x.left(2), 4);
        x.days(8);
        Due.is("a boy on DAY 9: each takes 10", x.left(2), 0);
        x.write(1, 4, 0);
        Due.is("with a fallen one, too", x.left(1), 7);
        Due.is("more than 30", Due.of(EIGHT + "y1;").left(0), 240);
    }

    private static void leftIsRefused() {
        Edge.says(19, "LEFT. BAD.");
        ChalkCastle x = Due.of("k1,0;b3;y1;");
        for (int clerk : new int[] {-1, 1, 4, LEAST, MOST}) {
            Due.is("clerk " + clerk, x.left(clerk), Due.BAD);
        }
        Due.is("no castle", new ChalkCastle().left(0), Due.BAD);
    }

    private static void leastFallenForUpTo240() {
        Edge.says(20, "LEAST FALLEN for n (0 to 240) of CHALK, told BLOCKS (bits):");
        ChalkCastle x = Due.of(EIGHT + "r1,0;r2,0;r3,0;r4,0;r5,0;r6,0;r7,0;");
        Due.is("0", x.leastFallen(0, 255, 0), 0);
        Due.is("0: none", x.leastFallen(0, 255, 1), 0);
        Due.is("232", x.leastFallen(232, 255, 0), 0);
        Due.is("233", x.leastFallen(233, 255, 0), Due.NONE);
        Due.is("239: all but 0", x.leastFallen(239, 1, 1), 254);
        Due.is("240: all", x.leastFallen(240, 0, 0), 8);
        Due.is("240: 0 bears all", x.leastFallen(240, 0, 1), 1);
        Due.is("240, one is told", x.leastFallen(240, 128, 0), Due.NONE);
        Due.is("241", x.leastFallen(241, 0, 0), Due.BAD);
        Due.is("-1", x.leastFallen(-1, 0, 0), Due.BAD);
    }

    private static void leastFallenOfWhatStandsNow() {
        Edge.says(20, "sets of BLOCKS that stand now, to be without CHALK,");
        ChalkCastle x = Due.of("k1,0;b3;b3;b3;b3;r1,0;y1;");
        x.write(0, 3, 0);
        Due.is("3 of the fallen one, 2 of the others", x.leastFallen(7, 0, 1), 0);
        Due.is("2 is the first that stands", x.leastFallen(8, 0, 1), 4);
        Due.is("2 and 3", x.leastFallen(9, 0, 1), 12);
        x.write(0, 3, 2);
        x.write(0, 3, 3);
        Due.is("none stands", x.leastFallen(3, 0, 1), 0);
        Due.is("none falls", x.leastFallen(3, 0, 0), 0);
        Due.is("there is no more", x.leastFallen(4, 0, 1), Due.NONE);
    }

    private static void noToldOneFalls() {
        Edge.says(20, "so that no told one falls,");
        ChalkCastle x = Due.of("k1,0;b5;b5;b5;r2,0;r2,1;y1;");
        Due.is("13, none told", x.leastFallen(13, 0, 1), 1);
        Due.is("13, 0 is told", x.leastFallen(13, 1, 1), 2);
        Due.is("13, 0 and 1 are told", x.leastFallen(13, 3, 1), 4);
        Due.is("13, all are told", x.leastFallen(13, 7, 0), Due.NONE);
        Due.is("12, all are told", x.leastFallen(12, 7, 0), 0);
        Due.is("14, 2 is told: 0 and 1 would make it fall", x.leastFallen(14, 4, 1), Due.NONE);
        x.write(0, 5, 0);
        Due.is("a told one that has none cannot fall", x.leastFallen(9, 1, 1), 4);
        Due.is("none told is the same", x.leastFallen(9, 0, 1), 4);
        x.write(0, 5, 1);
        Due.is("a told one that fell ahead cannot fall", x.leastFallen(5, 7, 0), 0);
    }

    private static void allButOneIsEnough() {
        Edge.says(20, "and all CHALK of those that do not stand then, and of each other one all but 1, "
            + "is n or more together:");
        ChalkCastle x = Due.of("k1,0;b1;b4;b9;r2,1;y1;");
        Due.is("0, 3 and 8", x.leastFallen(11, 0, 0), 0);
        Due.is("12: one", x.leastFallen(12, 0, 0), 1);
        Due.is("13: 1 makes 2 fall, 0 stays", x.leastFallen(13, 1, 1), 2);
        Due.is("14: all", x.leastFallen(14, 0, 0), 3);
        Due.is("15", x.leastFallen(15, 0, 0), Due.NONE);
        x.write(0, 4, 1);
        Due.is("all 9 of what fell ahead", x.leastFallen(9, 0, 0), 0);
        Due.is("and 1 of block 0", x.leastFallen(10, 0, 1), 1);
        Due.is("and no more", x.leastFallen(11, 0, 1), Due.NONE);
    }

    private static void theFewestDoNotStandThen() {
        Edge.says(20, "the fewest that do not stand then, of those that do now: how many;");
        ChalkCastle x = Due.of("k1,0;b9;b2;b2;b2;r1,0;r2,0;r3,0;y1;");
        Due.is("11: none", x.leastFallen(11, 0, 0), 0);
        Due.is("12: one", x.leastFallen(12, 0, 0), 1);
        Due.is("14: three", x.leastFallen(14, 0, 0), 3);
        Due.is("15: all four, by 0", x.leastFallen(15, 0, 0), 4);
        x.write(0, 2, 3);
        Due.is("what does not stand now does not count", x.leastFallen(13, 0, 0), 3);
    }

    private static void theLeastOfSeveralSets() {
        Edge.says(20, "that set to be without CHALK, of several the least; NONE.");
        ChalkCastle x = Due.of("k1,0;b9;b2;b2;r1,0;r2,1;y1;");
        Due.is("11: 2 alone", x.leastFallen(11, 0, 1), 4);
        Due.is("12: 1, and so 2; not both", x.leastFallen(12, 0, 1), 2);
        Due.is("13: 0 alone", x.leastFallen(13, 0, 1), 1);
        Due.is("10: no set but the empty one", x.leastFallen(10, 0, 1), 0);
        Due.is("14: NONE", x.leastFallen(14, 0, 1), Due.NONE);
        Due.is("14: NONE", x.leastFallen(14, 0, 0), Due.NONE);
    }

    private static void leastFallenTellsTwo() {
        Edge.says(20, "LEAST FALLEN: how many (what = 0), which to be without (1); NONE.");
        ChalkCastle x = Due.of("k1,0;b9;b2;b2;y1;");
        Due.is("how many", x.leastFallen(11, 3, 0), 1);
        Due.is("which", x.leastFallen(11, 3, 1), 4);
        Due.is("NONE, how many", x.leastFallen(11, 7, 0), Due.NONE);
        Due.is("NONE, which", x.leastFallen(11, 7, 1), Due.NONE);
        Due.is("240 of 13", x.leastFallen(240, 0, 0), Due.NONE);
    }

    private static void leastFallenIsRefused() {
        Edge.says(20, "BAD;");
        ChalkCastle x = Due.of("k1,0;b9;b2;");
        for (int n : new int[] {-1, 241, LEAST, MOST}) {
            Due.is("n " + n, x.leastFallen(n, 0, 0), Due.BAD);
        }
        for (int blocks : new int[] {-1, 4, 256, LEAST, MOST}) {
            Due.is("blocks " + blocks, x.leastFallen(0, blocks, 0), Due.BAD);
        }
        for (int what : new int[] {-1, 2, LEAST, MOST}) {
            Due.is("what " + what, x.leastFallen(0, 0, what), Due.BAD);
        }
        Due.is("the most blocks", x.leastFallen(0, 3, 0), 0);
        Due.is("one above of eight", Due.of(EIGHT).leastFallen(0, 256, 0), Due.BAD);
    }

    private static void leastFallenWithoutACastle() {
        Edge.says(20, "STATE: no CASTLE (ahead of BAD).");
        ChalkCastle x = new ChalkCastle();
        Due.is("no castle", x.leastFallen(0, 0, 0), Due.STATE);
        Due.is("n", x.leastFallen(-1, 0, 0), Due.STATE);
        Due.is("blocks", x.leastFallen(0, -1, 0), Due.STATE);
        Due.is("what", x.leastFallen(0, 0, 2), Due.STATE);
    }

    private static void mustIsMoreThanHalf() {
        Edge.says(21, "without which (its CHALK being 0) more than half of all that stand now would fall (it, too).");
        Due.is("one alone", Due.of("k1,0;b1;").must(), 1);
        Due.is("two apart: half is not more", Due.of("k1,0;b1;b1;").must(), 0);
        Due.is("two, one on the other", Due.of("k1,0;b1;b1;r1,0;").must(), 1);
        Due.is("three: it, too, is counted", Due.of("k1,0;b1;b1;b1;r1,0;").must(), 1);
        Due.is("four: 2 of 4 are half", Due.of("k1,0;b1;b1;b1;b1;r1,0;").must(), 0);
        Due.is("five: 3 of 5", Due.of("k1,0;b1;b1;b1;b1;b1;r1,0;r2,1;").must(), 1);
        Due.is("what another bears, too, does not fall", Due.of("k1,0;b1;b1;b1;r2,0;r2,1;").must(), 0);
        String tower = "r1,0;r2,1;r3,2;r4,3;r5,4;r6,5;r7,6;";
        Due.is("eight: 5 of 8 by 3, 4 of 8 by 4", Due.of(EIGHT + tower).must(), 15);
    }

    private static void mustIsOfWhatStands() {
        Edge.says(21, "MUST: BLOCKS (bits) that stand,");
        ChalkCastle x = Due.of("k1,0;b3;b3;b3;b3;r1,0;y1;");
        Due.is("four stand", x.must(), 0);
        x.write(0, 3, 0);
        Due.is("2 stand, 1 of 2 is half", x.must(), 0);
        x.write(0, 3, 2);
        Due.is("3 stands alone", x.must(), 8);
        x.write(0, 3, 3);
        Due.is("none stands", x.must(), 0);
        Due.is("though one fell", x.stand(1), 2);
    }

    private static void mustWithoutACastle() {
        Edge.says(21, "MUST. STATE: no CASTLE.");
        Due.is("must()", new ChalkCastle().must(), Due.STATE);
    }

    private static void layerIsOneMoreThanTheGreatest() {
        Edge.says(25, "LAYER of a BLOCK: 0, if it rests on none, else 1 more than the greatest of those it rests on.");
        ChalkCastle x = Due.of(EIGHT + "r1,0;r2,1;r3,2;r4,3;r5,4;r6,5;r7,6;r7,0;y1;");
        for (int b = 0; b < 8; b++) {
            Due.is("of a tower, block " + b, x.layer(b), b);
        }
        x.write(0, 30, 0);
        Due.is("what fell is where it was", x.layer(7), 7);
        ChalkCastle y = Due.of("k1,0;b1;b1;b1;b1;r2,1;r3,0;r3,2;");
        Due.is("rests on none", y.layer(1), 0);
        Due.is("on one", y.layer(2), 1);
        Due.is("the greatest is the last", y.layer(3), 2);
        Due.is("the greatest is the first", Due.of("k1,0;b1;b1;b1;b1;r1,0;r3,1;r3,2;").layer(3), 2);
        Due.is("in any order", Due.of("k1,0;b1;b1;b1;b1;r3,2;r2,1;r1,0;").layer(3), 3);
        x.image(0);
        Due.read(x, "k1,0;b1;b1;b1;r2,1;");
        Due.is("of the new castle, on one", x.layer(2), 1);
        Due.is("of the new castle, on none", x.layer(1), 0);
        x.restore(0);
        Due.is("of the castle that is back", x.layer(7), 7);
    }

    private static void layerIsRefused() {
        Edge.says(25, "LAYER. BAD.");
        ChalkCastle x = Due.of("k1,0;b1;b1;");
        for (int block : new int[] {-1, 2, 8, LEAST, MOST}) {
            Due.is("block " + block, x.layer(block), Due.BAD);
        }
        Due.is("no castle", new ChalkCastle().layer(0), Due.BAD);
    }

    private static void longestIsUpToThirty() {
        Edge.says(26, "LONGEST for a clerk: how many LINES (0 to 30) he can write at most at once with one BLOCK;");
        ChalkCastle x = Due.of("k1,0;b14;b15;b16;s1;c8;p9;l9;");
        Due.is("a short one, 30 though there is chalk for 32", x.longest(0, 0), 30);
        Due.is("a clerk", x.longest(1, 0), 2);
        Due.is("a poet: none", x.longest(2, 0), 0);
        Due.is("a lawyer on DAY 0", x.longest(3, 0), 7);
        x.days(6);
        Due.is("a lawyer on DAY 6", x.longest(3, 0), 1);
        x.days(1);
        Due.is("a lawyer on DAY 7: none", x.longest(3, 0), 0);
        Due.is("28 of 14", Due.of("k1,0;b14;s1;").longest(0, 0), 28);
        Due.is("30 of 15", Due.of("k1,0;b15;s1;").longest(0, 0), 30);
        Due.is("30 of 30", Due.of("k1,0;b30;y1;").longest(0, 0), 30);
        Due.is("29 of 29", Due.of("k1,0;b29;y1;").longest(0, 0), 29);
    }

    private static void longestIsWithTheFirst() {
        Edge.says(26, " with which, of several the first.");
        ChalkCastle x = Due.of("k1,0;b14;b15;b16;r2,0;s1;c8;p9;y1;");
        Due.is("30 with 1 and with 2", x.longest(0, 1), 1);
        Due.is("2 with 2 alone", x.longest(1, 1), 2);
        Due.is("0 with each", x.longest(2, 1), 0);
        x.write(3, 14, 0);
        Due.is("with a fallen one", x.longest(1, 1), 2);
        Due.is("of three alike", Due.of("k1,0;b7;b7;b7;c2;").longest(0, 1), 0);
        ChalkCastle y = Due.of("k1,0;b7;b7;b7;b7;b7;b7;b7;b8;c9;c9;c9;c2;");
        Due.is("with the last of eight, by the last of four", y.longest(3, 1), 7);
        Due.is("how many", y.longest(3, 0), 4);
    }

    private static void longestIsRefused() {
        Edge.says(26, "LONGEST: how many (what = 0), with which (1). BAD.");
        ChalkCastle x = Due.of("k1,0;b3;b4;y1;");
        Due.is("how many", x.longest(0, 0), 4);
        Due.is("with which", x.longest(0, 1), 1);
        for (int clerk : new int[] {-1, 1, 4, LEAST, MOST}) {
            Due.is("clerk " + clerk, x.longest(clerk, 0), Due.BAD);
        }
        for (int what : new int[] {-1, 2, LEAST, MOST}) {
            Due.is("what " + what, x.longest(0, what), Due.BAD);
        }
        Due.is("no castle", new ChalkCastle().longest(0, 0), Due.BAD);
    }
}
