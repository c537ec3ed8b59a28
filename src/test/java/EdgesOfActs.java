/** The edges of promises 9 undo, 11 rub, 12 rain, 13 days, and of how long an object is used. */
final class EdgesOfActs {
    private EdgesOfActs() {
    }

    static void all() {
        Edge.each(
            EdgesOfActs::anObjectIsUsedForManyCalls,
            EdgesOfActs::undoTellsHowManyYet,
            EdgesOfActs::undoIsRefused,
            EdgesOfActs::twentyFourActsAreKept,
            EdgesOfActs::theLatestIsUndoneFirst,
            EdgesOfActs::eachActIsUndone,
            EdgesOfActs::rubTakesDust,
            EdgesOfActs::rubPutsBackWhatIsCut,
            EdgesOfActs::rubPutsBackThirtyAtMost,
            EdgesOfActs::rubTellsChalk,
            EdgesOfActs::rubOfOneToSixty,
            EdgesOfActs::rubIsRefused,
            EdgesOfActs::rubOfMoreThanTheDust,
            EdgesOfActs::rainFallsOnWhatBearsNothing,
            EdgesOfActs::rainFallsOnWhatStands,
            EdgesOfActs::rainLeavesNoneAtLeast,
            EdgesOfActs::rainFallsAllAtOnce,
            EdgesOfActs::rainTellsWhatStands,
            EdgesOfActs::rainIsRefused,
            EdgesOfActs::aDayIsOneMore,
            EdgesOfActs::daysAreAnActEach,
            EdgesOfActs::daysAreRefused,
            EdgesOfActs::daysWithoutACastle,
            EdgesOfActs::daysAreFull);
    }

    private static void anObjectIsUsedForManyCalls() {
        Edge.says(9, "An object is used for at most 512 calls after it has been made; what later calls answer is free.");
        ChalkCastle x = Due.of("k1,0;b30;");
        for (int i = 10; i < 509; i++) {
            x.rain();
        }
        x.days(24);
        Due.is("call 511", x.undo(), 23);
        Due.is("call 512", x.count(4), 23);
    }

    private static void undoTellsHowManyYet() {
        Edge.says(9, "The latest ACT is undone: how many can be undone yet.");
        ChalkCastle x = Due.of("k1,0;b9;y1;");
        x.days(2);
        x.write(0, 4, 0);
        Due.is("the writing", x.undo(), 2);
        Due.is("chalk", x.block(0, 0), 9);
        Due.is("DAY stays", x.count(4), 2);
        Due.is("a day", x.undo(), 1);
        Due.is("the last one", x.undo(), 0);
        Due.is("DAY", x.count(4), 0);
    }

    private static void undoIsRefused() {
        Edge.says(9, "STATE: none.");
        ChalkCastle x = new ChalkCastle();
        Due.is("no castle", x.undo(), Due.STATE);
        Due.read(x, "k1,0;b9;y1;");
        Due.is("no act", x.undo(), Due.STATE);
        x.write(0, 30, 0);
        x.rub(1, 0);
        x.days(25);
        Due.is("what is refused is no act", x.undo(), Due.STATE);
        x.takes(0, 1);
        x.drawn(5, 5, 0);
        x.image(0);
        Due.is("what is foretold is no act", x.undo(), Due.STATE);
        x.rain();
        x.undo();
        Due.is("all are undone", x.undo(), Due.STATE);
        Due.is("chalk", x.block(0, 0), 9);
    }

    private static void twentyFourActsAreKept() {
        Edge.says(9, "ACTS (24 at most are kept, of more the oldest is forgotten;");
        ChalkCastle x = Due.of("k1,0;b30;y1;");
        for (int i = 1; i <= 26; i++) {
            x.write(0, 1, 0);
            Due.is("acts behind " + i, x.count(6), Math.min(24, i));
        }
        for (int i = 23; i >= 0; i--) {
            Due.is("undo()", x.undo(), i);
            Due.is("chalk", x.block(0, 0), 28 - i);
        }
        Due.is("the two oldest are forgotten", x.undo(), Due.STATE);
        Due.is("chalk", x.block(0, 0), 28);
        for (int i = 1; i <= 30; i++) {
            x.days(1);
        }
        Due.is("24 again", x.count(6), 24);
        x.undo();
        x.write(0, 1, 0);
        Due.is("one undone, one done", x.count(6), 24);
        for (int i = 23; i >= 0; i--) {
            Due.is("undo()", x.undo(), i);
        }
        Due.is("DAY", x.count(4), 6);
        Due.is("chalk", x.block(0, 0), 28);
    }

    private static void theLatestIsUndoneFirst() {
        Edge.says(9, "each can be undone, the latest first):");
        ChalkCastle x = Due.of("k2,0;b9;y1;");
        x.write(0, 5, 0);
        x.rain();
        Due.is("chalk", x.block(0, 0), 2);
        x.undo();
        Due.is("the rain", x.block(0, 0), 4);
        x.undo();
        Due.is("the writing", x.block(0, 0), 9);
    }

    private static void eachActIsUndone() {
        Edge.says(9, "LINES are written;");
        ChalkCastle x = Due.of("k3,5;b9;b9;r1,0;y1;");
        String[] states = new String[6];
        states[0] = Due.seen(x);
        x.write(0, 9, 0);
        states[1] = Due.seen(x);
        x.rub(9, 0);
        states[2] = Due.seen(x);
        x.rain();
        states[3] = Due.seen(x);
        x.days(2);
        Due.is("acts", x.count(6), 5);
        x.undo();
        x.undo();
        Due.holds("the days", states[3].equals(Due.seen(x)));
        x.undo();
        Due.holds("the rain", states[2].equals(Due.seen(x)));
        x.undo();
        Due.holds("the rubbing", states[1].equals(Due.seen(x)));
        x.undo();
        Due.holds("the writing", states[0].equals(Due.seen(x)));
    }

    /** DUST 40, block 0 empty, block 1 has 1, block 2 has 30. */
    private static ChalkCastle dusty(int rubs) {
        ChalkCastle x = Due.of("k1," + rubs + ";b30;b11;b30;y1;");
        x.write(0, 30, 0);
        x.write(0, 10, 1);
        return x;
    }

    private static void rubTakesDust() {
        Edge.says(11, "n of CHALK (of DUST) are rubbed out: DUST is n less,");
        ChalkCastle x = dusty(0);
        Due.is("nothing is put back", x.rub(15, 0), 0);
        Due.is("DUST", x.stand(3), 25);
        Due.is("all that is left", x.rub(25, 0), 0);
        Due.is("DUST", x.stand(3), 0);
        Due.is("LINES stay", x.stand(4), 40);
    }

    private static void rubPutsBackWhatIsCut() {
        Edge.says(11, "n times RUBS by 10 (cut) are put back to a BLOCK");
        Due.is("9 times 1", dusty(1).rub(9, 0), 0);
        Due.is("10 times 1", dusty(1).rub(10, 0), 1);
        Due.is("19 times 1", dusty(1).rub(19, 0), 1);
        Due.is("1 times 9", dusty(9).rub(1, 0), 0);
        Due.is("2 times 9", dusty(9).rub(2, 0), 1);
        Due.is("7 times 9", dusty(9).rub(7, 1), 1 + 6);
        Due.is("13 times 10", dusty(10).rub(13, 0), 13);
        Due.is("40 times 0", dusty(0).rub(40, 1), 1);
        Edge.says(11, "All that is divided is cut towards 0,");
        Due.is("3 times 7 by 10", dusty(7).rub(3, 0), 2);
    }

    private static void rubPutsBackThirtyAtMost() {
        Edge.says(11, "(30 at most; what is above is lost);");
        ChalkCastle x = dusty(10);
        Due.is("to 1: 28", x.rub(28, 1), 29);
        Due.is("one more", x.rub(1, 1), 30);
        Due.is("one above", x.rub(1, 1), 30);
        Due.is("to a full one", x.rub(10, 2), 30);
        Due.is("DUST", x.stand(3), 0);
        Due.is("all chalk: what is above is lost", x.stand(2), 60);
        ChalkCastle y = dusty(10);
        Due.is("40 to an empty one", y.rub(40, 0), 30);
        Due.is("30 to an empty one", dusty(10).rub(30, 0), 30);
        Due.is("29 to an empty one", dusty(10).rub(29, 0), 29);
    }

    private static void rubTellsChalk() {
        Edge.says(11, "are rubbed out: CHALK of the BLOCK then.");
        ChalkCastle x = dusty(5);
        Due.is("rub", x.rub(10, 1), 6);
        Due.is("chalk of it", x.block(1, 0), 6);
        Due.is("chalk of another", x.block(0, 0), 0);
        Due.is("an act", x.count(6), 3);
        Due.is("an empty one", x.rub(2, 0), 1);
        Due.is("stands again", x.block(0, 1), 1);
    }

    private static void rubOfOneToSixty() {
        Edge.says(11, "n (1 to 60)");
        ChalkCastle x = Due.of("k1,1;b30;b30;b30;y1;");
        x.write(0, 30, 0);
        x.write(0, 30, 1);
        x.write(0, 1, 2);
        Due.is("61 of 61", x.rub(61, 0), Due.BAD);
        Due.is("0", x.rub(0, 0), Due.BAD);
        Due.is("60", x.rub(60, 0), 6);
        Due.is("1", x.rub(1, 0), 6);
        Due.is("DUST", x.stand(3), 0);
    }

    private static void rubIsRefused() {
        Edge.says(11, "BAD;");
        ChalkCastle x = dusty(10);
        for (int n : new int[] {0, -1, 61, Integer.MIN_VALUE, Integer.MAX_VALUE}) {
            Due.is("n " + n, x.rub(n, 0), Due.BAD);
        }
        for (int block : new int[] {-1, 3, Integer.MIN_VALUE, Integer.MAX_VALUE}) {
            Due.is("block " + block, x.rub(1, block), Due.BAD);
            Due.is("ahead of STATE, block " + block, x.rub(60, block), Due.BAD);
        }
        Due.is("DUST", x.stand(3), 40);
        Due.is("no castle", new ChalkCastle().rub(1, 0), Due.BAD);
    }

    private static void rubOfMoreThanTheDust() {
        Edge.says(11, "STATE: DUST is less.");
        ChalkCastle x = dusty(10);
        Due.is("41 of 40", x.rub(41, 0), Due.STATE);
        Due.is("acts", x.count(6), 2);
        Due.is("40 of 40", x.rub(40, 0), 30);
        Due.is("1 of 0", x.rub(1, 0), Due.STATE);
        Due.is("at first", Due.of("k1,9;b1;").rub(1, 0), Due.STATE);
    }

    private static void rainFallsOnWhatBearsNothing() {
        Edge.says(12, "rain: each BLOCK on which nothing rests that stands,");
        ChalkCastle x = Due.of("k2,0;b9;b9;b9;b9;r1,0;r2,0;r3,1;y1;");
        x.rain();
        Due.is("0 bears 1 and 2", x.block(0, 0), 9);
        Due.is("1 bears 3", x.block(1, 0), 9);
        Due.is("2 bears nothing", x.block(2, 0), 7);
        Due.is("3 bears nothing", x.block(3, 0), 7);
        x.write(0, 7, 3);
        x.rain();
        Due.is("what rests on 1 stands no more", x.block(1, 0), 7);
        Due.is("0 bears yet", x.block(0, 0), 9);
    }

    private static void rainFallsOnWhatStands() {
        Edge.says(12, " and that stands itself,");
        ChalkCastle x = Due.of("k2,0;b9;b9;b9;r1,0;y1;");
        x.write(0, 9, 0);
        Due.is("rain()", x.rain(), 4);
        Due.is("a fallen one", x.block(1, 0), 9);
        Due.is("an empty one", x.block(0, 0), 0);
        Due.is("one that stands", x.block(2, 0), 7);
    }

    private static void rainLeavesNoneAtLeast() {
        Edge.says(12, "has RAIN CHALK less (0 at least),");
        ChalkCastle x = Due.of("k4,0;b3;b4;b5;");
        Due.is("rain()", x.rain(), 4);
        Due.is("of 3", x.block(0, 0), 0);
        Due.is("of 4", x.block(1, 0), 0);
        Due.is("of 5", x.block(2, 0), 1);
        Due.is("all chalk", x.stand(2), 1);
        Due.is("no DUST", x.stand(3), 0);
    }

    private static void rainFallsAllAtOnce() {
        Edge.says(12, "all at once;");
        ChalkCastle x = Due.of("k1,0;b9;b1;b1;r1,0;r2,1;");
        Due.is("2 goes", x.rain(), 3);
        Due.is("1 bore it", x.block(1, 0), 1);
        Due.is("then 1", x.rain(), 1);
        Due.is("0 bore it", x.block(0, 0), 9);
        Due.is("then on 0", x.rain(), 1);
        Due.is("chalk", x.block(0, 0), 8);
    }

    private static void rainTellsWhatStands() {
        Edge.says(12, "Rain: BLOCKS that stand then (bits).");
        ChalkCastle x = Due.of("k9,0;b9;b10;");
        Due.is("1 stands yet", x.rain(), 2);
        Due.is("none stands", x.rain(), 0);
        Due.is("on none", x.rain(), 0);
        Due.is("acts all the same", x.count(6), 3);
        Due.is("all of eight", Due.of("k1,0;b2;b2;b2;b2;b2;b2;b2;b2;").rain(), 255);
    }

    private static void rainIsRefused() {
        Edge.says(12, "STATE: no CASTLE.");
        ChalkCastle x = new ChalkCastle();
        Due.is("rain()", x.rain(), Due.STATE);
        Due.is("no act", x.count(6), 0);
        x.castle();
        Due.is("behind a fault", x.rain(), Due.STATE);
    }

    private static void aDayIsOneMore() {
        Edge.says(13, "a DAY (DAY 1 more).");
        ChalkCastle x = Due.of("k1,0;b1;");
        Due.is("1", x.days(1), 1);
        Due.is("2", x.days(1), 2);
        Due.is("DAY", x.count(4), 2);
        Due.is("nothing else", x.stand(2), 1);
    }

    private static void daysAreAnActEach() {
        Edge.says(13, "n DAYS (1 to 24), an ACT each: DAY.");
        ChalkCastle x = Due.of("k1,0;b1;");
        Due.is("1", x.days(1), 1);
        Due.is("an act", x.count(6), 1);
        Due.is("3", x.days(3), 4);
        Due.is("acts", x.count(6), 4);
        x.undo();
        Due.is("one undone", x.count(4), 3);
        Due.is("24", x.days(24), 27);
        Due.is("acts", x.count(6), 24);
        for (int i = 0; i < 24; i++) {
            x.undo();
        }
        Due.is("24 undone", x.count(4), 3);
        Due.is("no more", x.undo(), Due.STATE);
    }

    private static void daysAreRefused() {
        Edge.says(13, "BAD;");
        ChalkCastle x = Due.of("k1,0;b1;");
        for (int n : new int[] {0, -1, 25, Integer.MIN_VALUE, Integer.MAX_VALUE}) {
            Due.is("n " + n, x.days(n), Due.BAD);
        }
        Due.is("DAY", x.count(4), 0);
        Due.is("no act", x.count(6), 0);
    }

    private static void daysWithoutACastle() {
        Edge.says(13, "STATE: no CASTLE (ahead of BAD);");
        ChalkCastle x = new ChalkCastle();
        for (int n : new int[] {1, 24, 0, -1, 25, Integer.MAX_VALUE}) {
            Due.is("n " + n, x.days(n), Due.STATE);
        }
        Due.is("DAY", x.count(4), 0);
    }

    private static void daysAreFull() {
        Edge.says(13, "FULL: DAY would be above 999.");
        ChalkCastle x = Due.of("k1,0;b1;");
        for (int i = 0; i < 41; i++) {
            x.days(24);
        }
        Due.is("984 and 16", x.days(16), Due.FULL);
        Due.is("984 and 24", x.days(24), Due.FULL);
        Due.is("BAD ahead of FULL", x.days(25), Due.BAD);
        Due.is("DAY", x.count(4), 984);
        Due.is("984 and 15", x.days(15), 999);
        Due.is("one more", x.days(1), Due.FULL);
        x.undo();
        Due.is("998 and 2", x.days(2), Due.FULL);
        Due.is("998 and 1", x.days(1), 999);
    }
}
