/** The edges of promises 10 write, 14 block, 15 clerk, 16 takes, 17 stand. */
final class EdgesOfLines {
    private static final int LEAST = Integer.MIN_VALUE, MOST = Integer.MAX_VALUE;

    private EdgesOfLines() {
    }

    static void all() {
        Edge.each(
            EdgesOfLines::aBlockStandsWithAnyChalk,
            EdgesOfLines::aBlockStandsOnOneThatStands,
            EdgesOfLines::whatFellCanBeWrittenWith,
            EdgesOfLines::aClerkTakes,
            EdgesOfLines::aShortOneTakes,
            EdgesOfLines::aPoetTakes,
            EdgesOfLines::aBoyTakes,
            EdgesOfLines::aLawyerTakes,
            EdgesOfLines::linesAreWrittenWithSoMuch,
            EdgesOfLines::dustIsMore,
            EdgesOfLines::linesAreOneToThirty,
            EdgesOfLines::writeTellsChalk,
            EdgesOfLines::writeIsRefused,
            EdgesOfLines::writeWithTooLittle,
            EdgesOfLines::blockTells,
            EdgesOfLines::blockIsRefused,
            EdgesOfLines::clerkTells,
            EdgesOfLines::clerkIsRefused,
            EdgesOfLines::takesToday,
            EdgesOfLines::takesIsRefused,
            EdgesOfLines::standTells,
            EdgesOfLines::setsAreBits,
            EdgesOfLines::standIsRefused,
            EdgesOfLines::standWithoutACastle);
    }

    private static void aBlockStandsWithAnyChalk() {
        Edge.says(17, "A BLOCK stands, if it has any CHALK");
        ChalkCastle x = Due.of("k1,0;b2;b3;y1;");
        x.write(0, 1, 0);
        Due.is("1 is enough", x.stand(0), 3);
        x.write(0, 1, 0);
        Due.is("0 is not", x.stand(0), 2);
        Due.is("nor has it fallen", x.stand(1), 0);
    }

    private static void aBlockStandsOnOneThatStands() {
        Edge.says(17, " and, should it rest on any, one of these stands.");
        ChalkCastle x = Due.of("k1,0;b1;b1;b9;b9;b9;r2,0;r2,1;r3,2;y1;");
        Due.is("all", x.stand(0), 31);
        x.write(0, 1, 0);
        Due.is("one of two bears", x.stand(0), 30);
        x.write(0, 1, 1);
        Due.is("none of two bears, nor does one that fell", x.stand(0), 16);
        Due.is("fallen", x.stand(1), 12);
    }

    private static void whatFellCanBeWrittenWith() {
        Edge.says(10, "What does not stand and has CHALK is FALLEN (its CHALK can be written with).");
        ChalkCastle x = Due.of("k1,0;b1;b2;r1,0;y1;");
        Due.is("none fell", x.stand(1), 0);
        x.write(0, 1, 0);
        Due.is("1 fell, 0 has none", x.stand(1), 2);
        Due.is("written with", x.write(0, 1, 1), 1);
        Due.is("it has some yet", x.stand(1), 2);
        Due.is("written with", x.write(0, 1, 1), 1);
        Due.is("it has none", x.stand(1), 0);
    }

    private static void aClerkTakes() {
        Edge.says(16, "n LINES take of CHALK: by a clerk HAND times n;");
        ChalkCastle x = Due.of("k1,0;b1;c1;c9;");
        Due.is("1 by 1", x.takes(0, 1), 1);
        Due.is("1 by 30", x.takes(0, 30), 30);
        Due.is("9 by 1", x.takes(1, 1), 9);
        Due.is("9 by 30", x.takes(1, 30), 270);
        x.days(9);
        Due.is("on any DAY", x.takes(1, 30), 270);
    }

    private static void aShortOneTakes() {
        Edge.says(16, "by a short one half of that (what is odd being 1 more ahead);");
        ChalkCastle x = Due.of("k1,0;b1;s1;s2;s9;");
        Due.is("1 by 1", x.takes(0, 1), 1);
        Due.is("1 by 2", x.takes(0, 2), 1);
        Due.is("1 by 3", x.takes(0, 3), 2);
        Due.is("1 by 29", x.takes(0, 29), 15);
        Due.is("1 by 30", x.takes(0, 30), 15);
        Due.is("2 by 1", x.takes(1, 1), 1);
        Due.is("9 by 29", x.takes(2, 29), 131);
        Due.is("9 by 30", x.takes(2, 30), 135);
    }

    private static void aPoetTakes() {
        Edge.says(16, "by a poet twice that;");
        ChalkCastle x = Due.of("k1,0;b1;p1;p9;");
        Due.is("1 by 1", x.takes(0, 1), 2);
        Due.is("9 by 1", x.takes(1, 1), 18);
        Due.is("9 by 30", x.takes(1, 30), 540);
    }

    private static void aBoyTakes() {
        Edge.says(16, "by a boy n, and DAY more (9 at most);");
        ChalkCastle x = Due.of("k1,0;b1;y1;y9;");
        Due.is("DAY 0", x.takes(1, 30), 30);
        for (int day = 1; day <= 12; day++) {
            x.days(1);
            Due.is("DAY " + day, x.takes(0, 1), 1 + Math.min(9, day));
            Due.is("HAND is nothing, DAY " + day, x.takes(1, 1), 1 + Math.min(9, day));
        }
        for (int i = 0; i < 41; i++) {
            x.days(24);
        }
        Due.is("DAY 996", x.takes(1, 30), 39);
    }

    private static void aLawyerTakes() {
        Edge.says(16, "by a lawyer that, and HAND more.");
        ChalkCastle x = Due.of("k1,0;b1;l1;l9;");
        Due.is("DAY 0", x.takes(0, 1), 2);
        x.days(9);
        Due.is("DAY 9", x.takes(1, 30), 48);
        x.days(1);
        Due.is("DAY 10", x.takes(1, 30), 48);
    }

    private static void linesAreWrittenWithSoMuch() {
        Edge.says(10, "They can be written with a BLOCK that has so much;");
        ChalkCastle x = Due.of("k1,0;b5;b6;b7;c3;");
        Due.is("6 of 5", x.write(0, 2, 0), Due.STATE);
        Due.is("6 of 6", x.write(0, 2, 1), 6);
        Due.is("6 of 7", x.write(0, 2, 2), 6);
        Due.is("no two blocks together", x.write(0, 1, 2), Due.STATE);
    }

    private static void dustIsMore() {
        Edge.says(10, "that is less then, DUST is more by it.");
        ChalkCastle x = Due.of("k1,0;b9;b9;c3;");
        x.write(0, 2, 1);
        Due.is("less", x.block(1, 0), 3);
        Due.is("not the other", x.block(0, 0), 9);
        Due.is("DUST", x.stand(3), 6);
        x.write(0, 3, 0);
        Due.is("none left", x.block(0, 0), 0);
        Due.is("DUST", x.stand(3), 15);
    }

    private static void linesAreOneToThirty() {
        Edge.says(10, "n LINES (1 to 30) are written");
        ChalkCastle x = Due.of("k1,0;b30;b30;s1;");
        Due.is("0", x.write(0, 0, 0), Due.BAD);
        Due.is("1", x.write(0, 1, 0), 1);
        Due.is("30", x.write(0, 30, 1), 15);
        Due.is("31", x.write(0, 31, 0), Due.BAD);
        Due.is("LINES", x.clerk(0, 1), 31);
    }

    private static void writeTellsChalk() {
        Edge.says(10, ": CHALK they take.");
        ChalkCastle x = Due.of("k1,0;b30;c2;s3;p2;y5;");
        Due.is("a clerk", x.write(0, 3, 0), 6);
        Due.is("a short one", x.write(1, 1, 0), 2);
        Due.is("a poet", x.write(2, 1, 0), 4);
        x.days(1);
        Due.is("a boy", x.write(3, 4, 0), 5);
        Due.is("LINES of all", x.stand(4), 9);
        Due.is("acts", x.count(6), 5);
    }

    private static void writeIsRefused() {
        Edge.says(10, "BAD;");
        ChalkCastle x = Due.of("k1,0;b30;b1;y1;c9;");
        for (int clerk : new int[] {-1, 2, 4, LEAST, MOST}) {
            Due.is("clerk " + clerk, x.write(clerk, 1, 0), Due.BAD);
            Due.is("ahead of STATE, clerk " + clerk, x.write(clerk, 30, 1), Due.BAD);
        }
        for (int n : new int[] {-1, 0, 31, LEAST, MOST}) {
            Due.is("n " + n, x.write(0, n, 0), Due.BAD);
            Due.is("ahead of STATE, n " + n, x.write(1, n, 1), Due.BAD);
        }
        for (int block : new int[] {-1, 2, 8, LEAST, MOST}) {
            Due.is("block " + block, x.write(0, 1, block), Due.BAD);
        }
        Due.is("no act", x.count(6), 0);
        Due.is("no clerks", Due.of("k1,0;b30;").write(0, 1, 0), Due.BAD);
        Due.is("no castle", new ChalkCastle().write(0, 1, 0), Due.BAD);
    }

    private static void writeWithTooLittle() {
        Edge.says(10, "STATE: the BLOCK has not so much.");
        ChalkCastle x = Due.of("k1,0;b3;b30;y1;c9;");
        Due.is("4 of 3", x.write(0, 4, 0), Due.STATE);
        Due.is("3 of 3", x.write(0, 3, 0), 3);
        Due.is("1 of 0", x.write(0, 1, 0), Due.STATE);
        Due.is("270 of 30", x.write(1, 30, 1), Due.STATE);
        Due.is("LINES", x.stand(4), 3);
        Due.is("acts", x.count(6), 1);
    }

    private static void blockTells() {
        Edge.says(14, "Of a BLOCK: 0 CHALK, 1 whether it stands (1, 0), 2 on which it rests (bits), "
            + "3 which rest on it (bits).");
        ChalkCastle x = Due.of("k1,0;b2;b2;b2;b2;b2;b2;b2;b30;r7,0;r7,6;r1,0;y1;");
        Due.is("chalk of 7", x.block(7, 0), 30);
        Due.is("7 stands", x.block(7, 1), 1);
        Due.is("7 rests on", x.block(7, 2), 65);
        Due.is("on 7", x.block(7, 3), 0);
        Due.is("0 rests on", x.block(0, 2), 0);
        Due.is("on 0", x.block(0, 3), 130);
        x.write(0, 2, 0);
        Due.is("chalk of 0", x.block(0, 0), 0);
        Due.is("0 stands not", x.block(0, 1), 0);
        Due.is("1 fell", x.block(1, 1), 0);
        Due.is("7 stands yet", x.block(7, 1), 1);
        Due.is("they rest on it yet", x.block(0, 3), 130);
        Due.is("it rests on it yet", x.block(7, 2), 65);
    }

    private static void blockIsRefused() {
        Edge.says(14, "BAD.");
        ChalkCastle x = Due.of("k1,0;b2;b2;y1;");
        for (int block : new int[] {-1, 2, 8, LEAST, MOST}) {
            Due.is("block " + block, x.block(block, 0), Due.BAD);
        }
        for (int what : new int[] {-1, 4, LEAST, MOST}) {
            Due.is("what " + what, x.block(0, what), Due.BAD);
        }
        Due.is("no castle", new ChalkCastle().block(0, 0), Due.BAD);
    }

    private static void clerkTells() {
        Edge.says(15, "Of a clerk: 0 HAND, 1 LINES he wrote.");
        ChalkCastle x = Due.of("k1,0;b30;c1;c1;c1;y9;");
        Due.is("hand of 0", x.clerk(0, 0), 1);
        Due.is("hand of 3", x.clerk(3, 0), 9);
        Due.is("none yet", x.clerk(3, 1), 0);
        x.write(3, 2, 0);
        x.write(3, 5, 0);
        x.write(0, 1, 0);
        x.write(3, 30, 0);
        Due.is("of 3", x.clerk(3, 1), 7);
        Due.is("of 0", x.clerk(0, 1), 1);
        Due.is("of 1", x.clerk(1, 1), 0);
        x.rub(1, 0);
        Due.is("rubbing leaves them", x.clerk(3, 1), 7);
    }

    private static void clerkIsRefused() {
        Edge.says(15, "BAD.");
        ChalkCastle x = Due.of("k1,0;b2;c1;y1;");
        for (int clerk : new int[] {-1, 2, 4, LEAST, MOST}) {
            Due.is("clerk " + clerk, x.clerk(clerk, 0), Due.BAD);
        }
        for (int what : new int[] {-1, 2, LEAST, MOST}) {
            Due.is("what " + what, x.clerk(0, what), Due.BAD);
        }
        Due.is("no clerks", Due.of("k1,0;b2;").clerk(0, 0), Due.BAD);
        Due.is("no castle", new ChalkCastle().clerk(0, 0), Due.BAD);
    }

    private static void takesToday() {
        Edge.says(16, "CHALK that n LINES (1 to 30) would take today.");
        ChalkCastle x = Due.of("k1,0;b1;y1;");
        Due.is("1", x.takes(0, 1), 1);
        Due.is("30, more than there is", x.takes(0, 30), 30);
        x.days(2);
        Due.is("today", x.takes(0, 1), 3);
        x.undo();
        Due.is("the day before", x.takes(0, 1), 2);
        Due.is("nothing is taken", x.stand(2), 1);
    }

    private static void takesIsRefused() {
        Edge.says(16, "BAD.");
        ChalkCastle x = Due.of("k1,0;b2;c1;y1;");
        for (int clerk : new int[] {-1, 2, 4, LEAST, MOST}) {
            Due.is("clerk " + clerk, x.takes(clerk, 1), Due.BAD);
        }
        for (int n : new int[] {-1, 0, 31, LEAST, MOST}) {
            Due.is("n " + n, x.takes(0, n), Due.BAD);
        }
        Due.is("no castle", new ChalkCastle().takes(0, 1), Due.BAD);
    }

    private static void standTells() {
        Edge.says(17, "0 BLOCKS that stand (bits), 1 that are FALLEN (bits), 2 all CHALK, 3 DUST, 4 all LINES.");
        ChalkCastle x = Due.of("k1,0;b30;b30;b30;b30;b30;b30;b30;b30;r7,0;y1;s1;");
        Due.is("all stand", x.stand(0), 255);
        Due.is("none fell", x.stand(1), 0);
        Due.is("all chalk", x.stand(2), 240);
        Due.is("no DUST", x.stand(3), 0);
        Due.is("no LINES", x.stand(4), 0);
        x.write(0, 30, 0);
        x.write(1, 30, 1);
        Due.is("0 and 7 stand not", x.stand(0), 126);
        Due.is("7 fell", x.stand(1), 128);
        Due.is("all chalk, of 7, too", x.stand(2), 195);
        Due.is("DUST", x.stand(3), 45);
        Due.is("LINES", x.stand(4), 60);
    }

    private static void setsAreBits() {
        Edge.says(17, "Sets are bits.");
        ChalkCastle x = Due.of("k1,0;b1;b1;b1;b1;b1;b1;b1;b1;y1;");
        for (int b = 0; b < 8; b++) {
            Due.is("what stands", x.stand(0), 256 - (1 << b));
            x.write(0, 1, b);
        }
        Due.is("none", x.stand(0), 0);
    }

    private static void standIsRefused() {
        Edge.says(17, "BAD;");
        ChalkCastle x = Due.of("k1,0;b1;");
        for (int what : new int[] {-1, 5, LEAST, MOST}) {
            Due.is("what " + what, x.stand(what), Due.BAD);
        }
    }

    private static void standWithoutACastle() {
        Edge.says(17, "STATE: no CASTLE (ahead of BAD).");
        ChalkCastle x = new ChalkCastle();
        for (int what : new int[] {0, 1, 2, 3, 4, -1, 5, LEAST, MOST}) {
            Due.is("what " + what, x.stand(what), Due.STATE);
        }
    }
}
