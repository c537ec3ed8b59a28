/** The edges of promises 27 rains, 28 share, 29 drawn, 30 image, 31 restore. */
final class EdgesOfChance {
    private static final int LEAST = Integer.MIN_VALUE, MOST = Integer.MAX_VALUE;

    private EdgesOfChance() {
    }

    static void all() {
        Edge.each(
            EdgesOfChance::rainsByNoneToTen,
            EdgesOfChance::rainsApart,
            EdgesOfChance::rainsInLowestTerms,
            EdgesOfChance::rainsAreRefused,
            EdgesOfChance::shareOfAllLines,
            EdgesOfChance::shareInLowestTerms,
            EdgesOfChance::shareTellsTwo,
            EdgesOfChance::shareOfNone,
            EdgesOfChance::shareIsRefused,
            EdgesOfChance::centuryOfUpToSixty,
            EdgesOfChance::centuryGoesOnByX,
            EdgesOfChance::centuryByClerks,
            EdgesOfChance::centuryWithoutClerks,
            EdgesOfChance::centuryByLines,
            EdgesOfChance::centuryByBlocks,
            EdgesOfChance::centuryIfHeCan,
            EdgesOfChance::centuryRainsThen,
            EdgesOfChance::centuryByDays,
            EdgesOfChance::centuryTellsItsDust,
            EdgesOfChance::drawnBySeeds,
            EdgesOfChance::drawnIsRefused,
            EdgesOfChance::drawnWithoutACastle,
            EdgesOfChance::imageIsKept,
            EdgesOfChance::imageIsRefused,
            EdgesOfChance::imageWithoutACastle,
            EdgesOfChance::restoreIsAsItWasKept,
            EdgesOfChance::restoreLeavesNoActs,
            EdgesOfChance::restoreLeavesTheRest,
            EdgesOfChance::restoreIsRefused,
            EdgesOfChance::restoreOfNone);
    }

    private static void fraction(String what, ChalkCastle x, int block, int p, long above, long below) {
        Due.is(what + ", above", x.rains(block, p, 0), above);
        Due.is(what + ", below", x.rains(block, p, 1), below);
    }

    private static ChalkCastle tower() {
        return Due.of("k1,0;b1;b1;b1;b1;b1;b1;b1;b1;r1,0;r2,1;r3,2;r4,3;r5,4;r6,5;r7,6;y1;");
    }

    private static void rainsByNoneToTen() {
        Edge.says(27, "RAINS by p of 10 (0 to 10):");
        ChalkCastle x = tower();
        fraction("0 of 10", x, 7, 0, 1, 1);
        fraction("10 of 10", x, 0, 10, 0, 1);
        fraction("10 of 10 at the top", x, 7, 10, 0, 1);
        fraction("1 of 10", x, 7, 1, 43046721, 100000000);
        fraction("9 of 10", x, 7, 9, 1, 100000000);
        Due.is("-1", x.rains(0, -1, 0), Due.BAD);
        Due.is("11", x.rains(0, 11, 0), Due.BAD);
    }

    private static void rainsApart() {
        Edge.says(27, "each BLOCK loses all its CHALK in p of 10 cases, apart: how likely a told one stands: a fraction.");
        ChalkCastle x = Due.of("k1,0;b1;b30;b9;b9;r2,0;r2,1;r3,2;y1;");
        fraction("rests on none", x, 1, 3, 7, 10);
        fraction("on one of two", x, 2, 3, 637, 1000);
        fraction("on that", x, 3, 3, 4459, 10000);
        fraction("by halves", x, 2, 5, 3, 8);
        x.write(0, 1, 0);
        fraction("on the one that is left", x, 2, 3, 49, 100);
        fraction("one that has none", x, 0, 0, 0, 1);
        x.write(0, 30, 1);
        fraction("what fell stands by no luck", x, 2, 0, 0, 1);
        fraction("nor what rests on it", x, 3, 5, 0, 1);
    }

    private static void rainsInLowestTerms() {
        Edge.says(27, "but fractions, told as two numbers in lowest terms (0 is 0 by 1).");
        ChalkCastle x = Due.of("k1,0;b1;b1;r1,0;");
        fraction("5 of 10", x, 0, 5, 1, 2);
        fraction("8 of 10", x, 0, 8, 1, 5);
        fraction("4 of 10, twice", x, 1, 4, 9, 25);
        fraction("none", x, 1, 10, 0, 1);
        fraction("all", x, 1, 0, 1, 1);
    }

    private static void rainsAreRefused() {
        Edge.says(27, "RAINS: above (what = 0), below (1). BAD.");
        ChalkCastle x = Due.of("k1,0;b1;b1;");
        for (int block : new int[] {-1, 2, 8, LEAST, MOST}) {
            Due.is("block " + block, x.rains(block, 5, 0), Due.BAD);
        }
        for (int p : new int[] {-1, 11, LEAST, MOST}) {
            Due.is("p " + p, x.rains(0, p, 0), Due.BAD);
        }
        for (int what : new int[] {-1, 2, LEAST, MOST}) {
            Due.is("what " + what, x.rains(0, 5, what), Due.BAD);
        }
        Due.is("no castle", new ChalkCastle().rains(0, 5, 0), Due.BAD);
    }

    private static void shareOfAllLines() {
        Edge.says(28, "SHARE of a clerk: LINES that he wrote, of all: a fraction.");
        ChalkCastle x = Due.of("k1,0;b30;b30;y1;s1;y1;");
        x.write(0, 30, 0);
        Due.is("all of them, above", x.share(0, 0), 1);
        Due.is("all of them, below", x.share(0, 1), 1);
        x.write(1, 29, 1);
        Due.is("30 of 59", x.share(0, 0), 30);
        Due.is("30 of 59", x.share(0, 1), 59);
        Due.is("LINES, not CHALK", x.share(1, 0), 29);
        x.undo();
        Due.is("undone", x.share(0, 1), 1);
        ChalkCastle y = Due.of("k1,0;b30;y1;y1;y1;y1;");
        for (int clerk = 0; clerk < 4; clerk++) {
            y.write(clerk, clerk + 1, 0);
        }
        Due.is("4 of 10, by the last of four", y.share(3, 0), 2);
        Due.is("4 of 10, by the last of four", y.share(3, 1), 5);
    }

    private static void shareInLowestTerms() {
        Edge.says(28, "but fractions, told as two numbers in lowest terms (0 is 0 by 1).");
        ChalkCastle x = Due.of("k1,0;b30;y1;s1;y1;");
        x.write(0, 4, 0);
        x.write(1, 6, 0);
        Due.is("4 of 10", x.share(0, 0), 2);
        Due.is("4 of 10", x.share(0, 1), 5);
        Due.is("6 of 10", x.share(1, 0), 3);
        Due.is("6 of 10", x.share(1, 1), 5);
        Due.is("0 of 10", x.share(2, 0), 0);
        Due.is("0 of 10", x.share(2, 1), 1);
    }

    private static void shareTellsTwo() {
        Edge.says(28, "SHARE: above (what = 0), below (1);");
        ChalkCastle x = Due.of("k1,0;b30;y1;y2;");
        x.write(0, 1, 0);
        x.write(1, 3, 0);
        Due.is("above", x.share(1, 0), 3);
        Due.is("below", x.share(1, 1), 4);
        Due.is("above", x.share(0, 0), 1);
        Due.is("below", x.share(0, 1), 4);
    }

    private static void shareOfNone() {
        Edge.says(28, "nobody wrote any: 0 by 1.");
        ChalkCastle x = Due.of("k1,0;b30;y1;");
        Due.is("0", x.share(0, 0), 0);
        Due.is("by 1", x.share(0, 1), 1);
        x.write(0, 1, 0);
        x.undo();
        Due.is("all undone", x.share(0, 0), 0);
        Due.is("by 1", x.share(0, 1), 1);
    }

    private static void shareIsRefused() {
        Edge.says(28, "BAD.");
        ChalkCastle x = Due.of("k1,0;b30;y1;");
        for (int clerk : new int[] {-1, 1, 4, LEAST, MOST}) {
            Due.is("clerk " + clerk, x.share(clerk, 0), Due.BAD);
        }
        for (int what : new int[] {-1, 2, LEAST, MOST}) {
            Due.is("what " + what, x.share(0, what), Due.BAD);
        }
        Due.is("no castle", new ChalkCastle().share(0, 0), Due.BAD);
    }

    private static void centuryOfUpToSixty() {
        Edge.says(29, "CENTURY of n (0 to 60) by a SEED (X at first):");
        // By 51 it rains ten times, the last time in the 60th.
        ChalkCastle x = Due.of("k1,0;b10;");
        Due.is("0", x.drawn(0, 51, 0), 1);
        Due.is("59", x.drawn(59, 51, 0), 1);
        Due.is("60", x.drawn(60, 51, 0), 0);
        Due.is("61", x.drawn(61, 51, 0), Due.BAD);
        Due.is("-1", x.drawn(-1, 51, 0), Due.BAD);
        ChalkCastle y = Due.of("k1,0;b3;b4;r1,0;y1;");
        Due.is("0: what stands now", y.drawn(0, 1, 0), 3);
        y.write(0, 3, 0);
        Due.is("0: what stands now", y.drawn(0, 1, 0), 0);
    }

    /** By 1 the lines are 3, 5, 4, 4, 1, and it does not rain. */
    private static void centuryGoesOnByX() {
        Edge.says(29, "in each X becomes the rest of (X times 16807) by 2147483647;");
        ChalkCastle x = Due.of("k1,0;b30;c1;");
        int[] dust = {0, 3, 8, 12, 16, 17};
        for (int n = 0; n < dust.length; n++) {
            Due.is("n " + n, x.drawn(n, 1, 1), dust[n]);
        }
        // 999999 times 16807 is above 2147483647: what is left is 1774597664, 5 lines and rain.
        Due.is("by a great one", x.drawn(1, 999999, 1), 5);
        Due.is("and one more, 3 lines", x.drawn(2, 999999, 1), 8);
    }

    private static void centuryByClerks() {
        Edge.says(29, "the clerk who is the rest of X by how many there are");
        ChalkCastle x = Due.of("k1,0;b30;c1;c2;c5;");
        // X 16807 leaves 1 by 3, 33614 leaves 2, 50421 leaves 0; lines 3, 5, 2.
        Due.is("clerk 1", x.drawn(1, 1, 1), 6);
        Due.is("clerk 2", x.drawn(1, 2, 1), 25);
        Due.is("clerk 0", x.drawn(1, 3, 1), 2);
    }

    private static void centuryWithoutClerks() {
        Edge.says(29, "(none: nothing)");
        ChalkCastle x = Due.of("k3,0;b3;");
        Due.is("nothing is written", x.drawn(60, 1, 1), 0);
        Due.is("it does not rain by 1", x.drawn(1, 1, 0), 1);
        Due.is("it rains by 4", x.drawn(1, 4, 0), 0);
        Due.is("nothing is written in rain", x.drawn(1, 4, 1), 0);
    }

    private static void centuryByLines() {
        Edge.says(29, "writes as many LINES as the rest of X by 5, and 1,");
        ChalkCastle x = Due.of("k1,0;b30;c1;");
        // X 84035, 50421, 16807, 67228, 33614
        Due.is("0, and 1", x.drawn(1, 5, 1), 1);
        Due.is("1, and 1", x.drawn(1, 3, 1), 2);
        Due.is("2, and 1", x.drawn(1, 1, 1), 3);
        Due.is("3, and 1", x.drawn(1, 4, 1), 4);
        Due.is("4, and 1", x.drawn(1, 2, 1), 5);
    }

    private static void centuryByBlocks() {
        Edge.says(29, "with the BLOCK that is the rest of X by BLOCKS,");
        // X 16807 leaves 1 by 3 and by 2, 33614 leaves 2 and 0, 50421 leaves 0 and 1; lines 3, 5, 2.
        Due.is("block 1 of 3", Due.of("k1,0;b3;b3;b3;c1;").drawn(1, 1, 0), 5);
        Due.is("block 2 of 3", Due.of("k1,0;b5;b5;b5;c1;").drawn(1, 2, 0), 3);
        Due.is("block 0 of 3", Due.of("k1,0;b2;b2;b2;c1;").drawn(1, 3, 0), 6);
        Due.is("block 1 of 2", Due.of("k1,0;b3;b3;c1;").drawn(1, 1, 0), 1);
        Due.is("block 0 of 1", Due.of("k1,0;b3;c1;").drawn(1, 1, 0), 0);
        // X 16807 leaves 7 by 8 and 3 by 4.
        Due.is("block 7 of 8", Due.of("k1,0;b6;b6;b6;b6;b6;b6;b6;b6;c1;c1;c1;c2;").drawn(1, 1, 0), 127);
    }

    private static void centuryIfHeCan() {
        Edge.says(29, "if he can;");
        Due.is("3 of 3", Due.of("k1,0;b3;c1;").drawn(1, 1, 1), 3);
        Due.is("3 of 2", Due.of("k1,0;b2;c1;").drawn(1, 1, 1), 0);
        Due.is("3 of 2: it stands", Due.of("k1,0;b2;c1;").drawn(1, 1, 0), 1);
        Due.is("3 and 5 and 4 and 4 of 7", Due.of("k1,0;b7;c1;").drawn(4, 1, 1), 7);
        ChalkCastle x = Due.of("k1,0;b3;b9;b9;r1,0;c1;");
        x.write(0, 3, 0);
        Due.is("with a fallen one", x.drawn(1, 1, 1), 3);
        x.write(0, 7, 1);
        Due.is("with what is left now", x.drawn(1, 1, 1), 0);
    }

    private static void centuryRainsThen() {
        Edge.says(29, "if X by 4 leaves 0, it rains then;");
        // By 8 he writes 2 lines, then it rains.
        Due.is("3 are left for the rain", Due.of("k4,0;b5;c1;").drawn(1, 8, 0), 0);
        Due.is("2 are written ahead of it", Due.of("k4,0;b5;c1;").drawn(1, 8, 1), 2);
        Due.is("rain makes no DUST", Due.of("k9,0;b30;c1;").drawn(1, 8, 1), 2);
        // He uses up block 2, so nothing that stands rests on 0 in the rain.
        Due.is("on what stands then", Due.of("k2,0;b2;b9;b2;r2,0;c1;").drawn(1, 8, 0), 2);
        // X 16807 leaves 3 by 4, 33614 leaves 2, 50421 leaves 1, 67228 leaves 0.
        for (int seed = 1; seed <= 4; seed++) {
            Due.is("by " + seed, Due.of("k9,0;b9;").drawn(1, seed, 0), seed == 4 ? 0 : 1);
        }
    }

    private static void centuryByDays() {
        Edge.says(29, "a DAY:");
        ChalkCastle x = Due.of("k1,0;b30;y1;");
        int[] dust = {0, 3, 3 + 6, 9 + 6, 15 + 7, 22 + 5};
        for (int n = 0; n < dust.length; n++) {
            Due.is("n " + n, x.drawn(n, 1, 1), dust[n]);
        }
        x.days(2);
        Due.is("from today on", x.drawn(1, 1, 1), 5);
        for (int i = 0; i < 41; i++) {
            x.days(24);
        }
        x.days(13);
        Due.is("the last DAY", x.count(4), 999);
        Due.is("and on, 9 at most", x.drawn(2, 1, 1), 12 + 14);
        Due.is("nothing changes", x.count(4), 999);
    }

    private static void centuryTellsItsDust() {
        Edge.says(29, "BLOCKS that stand then (bits); DUST of these.");
        ChalkCastle x = Due.of("k1,0;b30;b30;c1;");
        x.write(0, 7, 0);
        Due.is("none", x.drawn(0, 1, 1), 0);
        Due.is("3", x.drawn(1, 1, 1), 3);
        Due.is("both stand", x.drawn(1, 1, 0), 3);
        Due.is("the DUST there is stays", x.stand(3), 7);
    }

    private static void drawnBySeeds() {
        Edge.says(29, "CENTURY by a SEED (1 to 999999): BLOCKS (what = 0), DUST (1).");
        ChalkCastle x = Due.of("k1,0;b5;c1;");
        Due.is("0", x.drawn(1, 0, 0), Due.BAD);
        Due.is("1: BLOCKS", x.drawn(1, 1, 0), 1);
        Due.is("1: DUST", x.drawn(1, 1, 1), 3);
        Due.is("999999: BLOCKS", x.drawn(1, 999999, 0), 0);
        Due.is("999999: DUST", x.drawn(1, 999999, 1), 5);
        Due.is("1000000", x.drawn(1, 1000000, 0), Due.BAD);
    }

    private static void drawnIsRefused() {
        Edge.says(29, "BAD;");
        ChalkCastle x = Due.of("k1,0;b5;c1;");
        for (int n : new int[] {-1, 61, LEAST, MOST}) {
            Due.is("n " + n, x.drawn(n, 1, 0), Due.BAD);
        }
        for (int seed : new int[] {-1, 0, 1000000, LEAST, MOST}) {
            Due.is("seed " + seed, x.drawn(1, seed, 0), Due.BAD);
            Due.is("of none, seed " + seed, x.drawn(0, seed, 0), Due.BAD);
        }
        for (int what : new int[] {-1, 2, LEAST, MOST}) {
            Due.is("what " + what, x.drawn(1, 1, what), Due.BAD);
        }
    }

    private static void drawnWithoutACastle() {
        Edge.says(29, "STATE: no CASTLE (ahead of BAD).");
        ChalkCastle x = new ChalkCastle();
        Due.is("no castle", x.drawn(0, 1, 0), Due.STATE);
        Due.is("n", x.drawn(61, 1, 0), Due.STATE);
        Due.is("seed", x.drawn(1, 0, 0), Due.STATE);
        Due.is("what", x.drawn(1, 1, 2), Due.STATE);
    }

    private static void imageIsKept() {
        Edge.says(30, "An IMAGE (0, 1) is kept of the CASTLE: 1.");
        ChalkCastle x = Due.of("k1,0;b9;y1;");
        Due.is("image 0", x.image(0), 1);
        x.write(0, 1, 0);
        Due.is("image 1", x.image(1), 1);
        x.write(0, 1, 0);
        Due.is("acts can be undone yet", x.count(6), 2);
        x.restore(0);
        Due.is("0", x.block(0, 0), 9);
        x.restore(1);
        Due.is("1", x.block(0, 0), 8);
        Due.is("in place of the one before", x.image(0), 1);
        x.write(0, 5, 0);
        x.restore(0);
        Due.is("0 is as it was then", x.block(0, 0), 8);
    }

    private static void imageIsRefused() {
        Edge.says(30, "BAD;");
        ChalkCastle x = new ChalkCastle();
        for (int k : new int[] {-1, 2, LEAST, MOST}) {
            Due.is("ahead of STATE, " + k, x.image(k), Due.BAD);
        }
        Due.read(x, "k1,0;b9;");
        for (int k : new int[] {-1, 2, LEAST, MOST}) {
            Due.is("image " + k, x.image(k), Due.BAD);
        }
        Due.is("none was kept", x.restore(0), Due.STATE);
        Due.is("none was kept", x.restore(1), Due.STATE);
    }

    private static void imageWithoutACastle() {
        Edge.says(30, "STATE: no CASTLE.");
        ChalkCastle x = new ChalkCastle();
        Due.is("image 0", x.image(0), Due.STATE);
        Due.is("image 1", x.image(1), Due.STATE);
        Due.is("none was kept", x.restore(0), Due.STATE);
    }

    /** How many acts can be undone is the seventh number that is seen. */
    private static String withoutActs(ChalkCastle x) {
        return Due.seen(x).replaceFirst("^((\\d+ ){6})\\d+ ", "$1");
    }

    private static void restoreIsAsItWasKept() {
        Edge.says(31, "The CASTLE is as an IMAGE kept it");
        ChalkCastle x = Due.of("k3,5;b9;b8;b7;r1,0;r2,1;c2;l3;");
        x.write(0, 3, 1);
        x.days(4);
        x.rain();
        x.image(1);
        String kept = withoutActs(x);
        x.write(0, 1, 0);
        x.days(1);
        Due.read(x, "k1,0;b1;y1;");
        Due.is("restore(1)", x.restore(1), 1);
        Due.holds("all is as it was", kept.equals(withoutActs(x)));
        Due.is("the law, RUBS", x.rub(4, 1), 4);
        x.undo();
        x.rain();
        Due.is("the law, RAIN", x.block(2, 0), 1);
        Due.is("again", x.restore(1), 1);
        Due.holds("an image is not used up, nor changed", kept.equals(withoutActs(x)));
    }

    private static void restoreLeavesNoActs() {
        Edge.says(31, "(no ACT can be undone then): 1.");
        ChalkCastle x = Due.of("k1,0;b9;y1;");
        x.days(3);
        x.image(0);
        x.days(20);
        Due.is("restore(0)", x.restore(0), 1);
        Due.is("acts", x.count(6), 0);
        Due.is("undo()", x.undo(), Due.STATE);
        Due.is("DAY", x.count(4), 3);
        x.days(1);
        Due.is("an act behind it", x.undo(), 0);
        Due.is("no more", x.undo(), Due.STATE);
        Due.is("DAY", x.count(4), 3);
    }

    private static void restoreLeavesTheRest() {
        Edge.says(31, "The CASTLE is as an IMAGE kept it");
        ChalkCastle x = Due.of("k1,0;b9;y1;");
        x.image(0);
        x.row(2, 0, 3);
        x.castle();
        x.feed('k');
        x.ask(0, 1);
        x.set(0, 0, 0);
        x.restore(0);
        Due.is("rows", x.count(0), 1);
        Due.is("bytes on the tape", x.count(7), 1);
        Due.is("fault()", x.fault(), 1);
        Due.is("trace(0)", x.trace(0), 23);
        Due.is("status()", x.status(), 1);
    }

    private static void restoreIsRefused() {
        Edge.says(31, "BAD;");
        ChalkCastle x = Due.of("k1,0;b9;y1;");
        x.image(0);
        x.image(1);
        x.days(2);
        for (int k : new int[] {-1, 2, LEAST, MOST}) {
            Due.is("restore " + k, x.restore(k), Due.BAD);
        }
        Due.is("DAY", x.count(4), 2);
        Due.is("acts", x.count(6), 2);
        Due.is("ahead of STATE", new ChalkCastle().restore(2), Due.BAD);
    }

    private static void restoreOfNone() {
        Edge.says(31, "STATE: none was kept.");
        ChalkCastle x = new ChalkCastle();
        Due.is("no castle", x.restore(0), Due.STATE);
        Due.read(x, "k1,0;b9;y1;");
        x.days(2);
        Due.is("none", x.restore(0), Due.STATE);
        x.image(1);
        Due.is("another", x.restore(0), Due.STATE);
        Due.is("acts", x.count(6), 2);
        Due.is("this one", x.restore(1), 1);
    }
}
