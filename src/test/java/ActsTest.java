/** Promises 9 undo, 10 write, 11 rub, 12 rain, 13 days, 14 block, 15 clerk, 16 takes, 17 stand. */
public final class ActsTest {
    public static void main(String[] args) {
        tellsWhatLinesTake();
        writesLines();
        rubsOut();
        rains();
        countsDays();
        tellsBlocks();
        tellsClerks();
        tellsWhatStands();
        undoes();
        forgetsTheOldest();
        Due.end("ActsTest");
    }

    private static void tellsWhatLinesTake() {
        ChalkCastle x = Due.of("k1,0;b1;c3;s3;p3;y3;");
        Due.is("a clerk", x.takes(0, 7), 21);
        Due.is("a short one, odd", x.takes(1, 7), 11);
        Due.is("a short one, even", x.takes(1, 4), 6);
        Due.is("a poet", x.takes(2, 7), 42);
        Due.is("a poet's most", x.takes(2, 30), 180);
        Due.is("a boy on day 0", x.takes(3, 7), 7);
        x.days(3);
        Due.is("a boy on day 3", x.takes(3, 7), 10);
        x.days(6);
        Due.is("a boy on day 9", x.takes(3, 7), 16);
        x.days(1);
        Due.is("a boy on day 10", x.takes(3, 7), 16);
        Due.is("a clerk on any day", x.takes(0, 7), 21);
        Due.is("no lines", x.takes(0, 0), Due.BAD);
        Due.is("31 lines", x.takes(0, 31), Due.BAD);
        Due.is("clerk 4", x.takes(4, 1), Due.BAD);
        Due.is("clerk -1", x.takes(-1, 1), Due.BAD);
        ChalkCastle y = Due.of("k1,0;b1;l4;");
        Due.is("a lawyer on day 0", y.takes(0, 5), 9);
        y.days(24);
        Due.is("a lawyer on day 24", y.takes(0, 5), 18);
        Due.is("only one clerk", y.takes(1, 1), Due.BAD);
    }

    private static void writesLines() {
        ChalkCastle x = Due.of("k1,0;b5;b9;r1,0;c2;y1;");
        Due.is("4 with block 1", x.write(0, 2, 1), 4);
        Due.is("less then", x.block(1, 0), 5);
        Due.is("dust", x.stand(3), 4);
        Due.is("lines", x.clerk(0, 1), 2);
        Due.is("not so much", x.write(0, 3, 1), Due.STATE);
        Due.is("just so much", x.write(1, 5, 0), 5);
        Due.is("nothing stands", x.stand(0), 0);
        Due.is("fallen", x.stand(1), 2);
        Due.is("with a fallen one", x.write(0, 1, 1), 2);
        Due.is("all lines", x.count(5), 8);
        Due.is("with an empty one", x.write(1, 1, 0), Due.STATE);
        Due.is("no lines", x.write(0, 0, 1), Due.BAD);
        Due.is("31 lines", x.write(0, 31, 1), Due.BAD);
        Due.is("clerk 2", x.write(2, 1, 1), Due.BAD);
        Due.is("clerk -1", x.write(-1, 1, 1), Due.BAD);
        Due.is("block 2", x.write(0, 1, 2), Due.BAD);
        Due.is("block -1", x.write(0, 1, -1), Due.BAD);
        Due.is("acts", x.count(6), 3);
        Due.is("30 lines", Due.of("k1,0;b30;y1;").write(0, 30, 0), 30);
    }

    private static void rubsOut() {
        ChalkCastle x = Due.of("k1,7;b5;b28;b10;r2,0;y1;");
        Due.is("no dust", x.rub(1, 0), Due.STATE);
        x.write(0, 5, 0);
        x.write(0, 9, 2);
        Due.is("block 0 is used up", x.stand(0), 2);
        Due.is("3 times 7 by 10", x.rub(3, 0), 2);
        Due.is("dust", x.stand(3), 11);
        Due.is("it stands again, and what it bears", x.stand(0), 7);
        Due.is("30 at most", x.rub(10, 1), 30);
        Due.is("dust", x.stand(3), 1);
        Due.is("all that is left: 0 put back", x.rub(1, 0), 2);
        Due.is("no dust", x.stand(3), 0);
        Due.is("dust is less", x.rub(1, 0), Due.STATE);
        Due.is("0", x.rub(0, 0), Due.BAD);
        Due.is("60 is told", x.rub(60, 0), Due.STATE);
        Due.is("61", x.rub(61, 0), Due.BAD);
        Due.is("block 3", x.rub(1, 3), Due.BAD);
        Due.is("block -1", x.rub(1, -1), Due.BAD);
        Due.is("BAD ahead of STATE", x.rub(-1, 0), Due.BAD);
        Due.is("lines stay", x.count(5), 14);
        ChalkCastle y = Due.of("k1,10;b30;b30;y1;");
        y.write(0, 30, 0);
        y.write(0, 30, 1);
        Due.is("60 by 10 of 10, above is lost", y.rub(60, 0), 30);
        Due.is("all chalk", y.stand(2), 30);
    }

    private static void rains() {
        ChalkCastle x = Due.of("k4,0;b9;b4;b5;b6;r1,0;r2,0;r3,1;");
        Due.is("on 2 and 3", x.rain(), 15);
        Due.is("0 is borne upon", x.block(0, 0), 9);
        Due.is("1 is borne upon", x.block(1, 0), 4);
        Due.is("2", x.block(2, 0), 1);
        Due.is("3", x.block(3, 0), 2);
        Due.is("0 at least", x.rain(), 3);
        Due.is("2", x.block(2, 0), 0);
        Due.is("3", x.block(3, 0), 0);
        Due.is("all at once: 1 goes, 0 stays", x.rain(), 1);
        Due.is("0 was borne upon", x.block(0, 0), 9);
        Due.is("on 0", x.rain(), 1);
        Due.is("0", x.block(0, 0), 5);
        Due.is("rain makes no dust", x.stand(3), 0);
        Due.is("acts", x.count(6), 4);
        ChalkCastle y = Due.of("k2,0;b3;b9;r1,0;c3;");
        y.write(0, 1, 0);
        Due.is("a fallen one is not rained on", y.rain(), 0);
        Due.is("it has all", y.block(1, 0), 9);
        Due.is("rain on none is an act", y.count(6), 2);
        ChalkCastle z = Due.of("k2,0;b9;b3;r1,0;c3;");
        z.write(0, 1, 1);
        Due.is("what rests there stands not", z.rain(), 1);
        Due.is("so 0 is rained on", z.block(0, 0), 7);
        Due.is("no castle", new ChalkCastle().rain(), Due.STATE);
    }

    private static void countsDays() {
        ChalkCastle x = Due.of("k1,0;b1;");
        Due.is("1", x.days(1), 1);
        Due.is("24", x.days(24), 25);
        Due.is("an act each", x.count(6), 24);
        Due.is("0", x.days(0), Due.BAD);
        Due.is("25", x.days(25), Due.BAD);
        Due.is("-1", x.days(-1), Due.BAD);
        for (int i = 2; i <= 41; i++) {
            Due.is("on", x.days(24), 1 + 24 * i);
        }
        Due.is("985", x.count(4), 985);
        Due.is("15 more are too many", x.days(15), Due.FULL);
        Due.is("BAD ahead of FULL", x.days(25), Due.BAD);
        Due.is("14 more", x.days(14), 999);
        Due.is("no more", x.days(1), Due.FULL);
        Due.is("one undone", x.undo(), 23);
        Due.is("day", x.count(4), 998);
        Due.is("no castle", new ChalkCastle().days(1), Due.STATE);
        Due.is("no castle ahead of BAD", new ChalkCastle().days(0), Due.STATE);
    }

    private static void tellsBlocks() {
        ChalkCastle x = Due.of("k1,0;b4;b5;b6;r1,0;r2,0;r2,1;c4;");
        Due.is("chalk", x.block(2, 0), 6);
        Due.is("stands", x.block(2, 1), 1);
        Due.is("rests on", x.block(2, 2), 3);
        Due.is("on it", x.block(0, 3), 6);
        x.write(0, 1, 0);
        Due.is("no chalk", x.block(0, 0), 0);
        Due.is("stands not", x.block(0, 1), 0);
        Due.is("1 fell", x.block(1, 1), 0);
        Due.is("2 fell", x.block(2, 1), 0);
        Due.is("2 rests on them yet", x.block(2, 2), 3);
        Due.is("they rest on it yet", x.block(0, 3), 6);
        Due.is("what 4", x.block(0, 4), Due.BAD);
        Due.is("what -1", x.block(0, -1), Due.BAD);
        Due.is("block 3", x.block(3, 0), Due.BAD);
        Due.is("block -1", x.block(-1, 0), Due.BAD);
        ChalkCastle y = Due.of("k1,0;b4;b5;b6;r2,0;r2,1;c4;");
        y.write(0, 1, 0);
        Due.is("one that stands is enough", y.block(2, 1), 1);
    }

    private static void tellsClerks() {
        ChalkCastle x = Due.of("k1,0;b30;c4;y7;");
        x.write(1, 3, 0);
        x.write(1, 2, 0);
        Due.is("hand", x.clerk(0, 0), 4);
        Due.is("hand", x.clerk(1, 0), 7);
        Due.is("no lines", x.clerk(0, 1), 0);
        Due.is("lines", x.clerk(1, 1), 5);
        Due.is("what 2", x.clerk(0, 2), Due.BAD);
        Due.is("what -1", x.clerk(0, -1), Due.BAD);
        Due.is("clerk 2", x.clerk(2, 0), Due.BAD);
        Due.is("clerk -1", x.clerk(-1, 0), Due.BAD);
    }

    private static void tellsWhatStands() {
        ChalkCastle x = Due.of("k1,0;b4;b5;b6;r1,0;c4;y1;");
        x.write(0, 1, 0);
        x.write(1, 2, 2);
        Due.is("stand", x.stand(0), 4);
        Due.is("fallen", x.stand(1), 2);
        Due.is("all chalk", x.stand(2), 9);
        Due.is("dust", x.stand(3), 6);
        Due.is("all lines", x.stand(4), 3);
        Due.is("what 5", x.stand(5), Due.BAD);
        Due.is("what -1", x.stand(-1), Due.BAD);
    }

    private static void undoes() {
        ChalkCastle x = Due.of("k2,5;b9;b9;r1,0;c3;");
        x.write(0, 2, 1);
        x.rub(4, 0);
        x.rain();
        x.days(2);
        Due.is("acts", x.count(6), 5);
        Due.is("a refused call is no act", x.write(0, 30, 0), Due.STATE);
        Due.is("acts", x.count(6), 5);
        Due.is("a day", x.undo(), 4);
        Due.is("day 1", x.count(4), 1);
        Due.is("a day", x.undo(), 3);
        Due.is("day 0", x.count(4), 0);
        Due.is("chalk 1", x.block(1, 0), 1);
        Due.is("the rain", x.undo(), 2);
        Due.is("chalk 1", x.block(1, 0), 3);
        Due.is("chalk 0", x.block(0, 0), 11);
        Due.is("the rubbing", x.undo(), 1);
        Due.is("chalk 0", x.block(0, 0), 9);
        Due.is("dust", x.stand(3), 6);
        Due.is("the writing", x.undo(), 0);
        Due.is("chalk 1", x.block(1, 0), 9);
        Due.is("dust", x.stand(3), 0);
        Due.is("lines", x.count(5), 0);
        Due.is("no more", x.undo(), Due.STATE);
    }

    private static void forgetsTheOldest() {
        ChalkCastle x = Due.of("k1,0;b30;y1;");
        x.write(0, 5, 0);
        x.days(20);
        x.write(0, 1, 0);
        x.rain();
        x.rain();
        Due.is("24 are kept", x.count(6), 24);
        x.rain();
        Due.is("of 25 the oldest is forgotten", x.count(6), 24);
        for (int i = 23; i >= 0; i--) {
            Due.is("undo", x.undo(), i);
        }
        Due.is("no more", x.undo(), Due.STATE);
        Due.is("the first writing stays", x.block(0, 0), 25);
        Due.is("day 0", x.count(4), 0);
        Due.is("an act behind that", x.days(3), 3);
        Due.is("undone", x.undo(), 2);
        Due.is("undone", x.undo(), 1);
        Due.is("undone", x.undo(), 0);
        Due.is("day 0", x.count(4), 0);
    }
}
