/** Promises 1 (a new object), 6 feed, 7 castle, 8 fault. */
public final class TextTest {
    public static void main(String[] args) {
        isEmptyAtFirst();
        feedsTheTape();
        readsCastles();
        findsTokensThatCannotStand();
        findsNumbersNotAsTold();
        findsNoRoom();
        keepsAllAtAFault();
        Due.end("TextTest");
    }

    private static void isEmptyAtFirst() {
        ChalkCastle x = new ChalkCastle();
        for (int what = 0; what < 8; what++) {
            Due.is("count(" + what + ")", x.count(what), 0);
        }
        Due.is("fault", x.fault(), 0);
        Due.is("status", x.status(), 0);
        Due.is("trace", x.trace(0), Due.NONE);
        Due.is("no castle", x.stand(0), Due.STATE);
        Due.is("no castle ahead of BAD", x.stand(9), Due.STATE);
        Due.is("no block", x.block(0, 0), Due.BAD);
        Due.is("no clerk", x.clerk(0, 0), Due.BAD);
        Due.is("undo", x.undo(), Due.STATE);
        Due.is("restore", x.restore(1), Due.STATE);
    }

    private static void feedsTheTape() {
        ChalkCastle x = new ChalkCastle();
        Due.is("-1", x.feed(-1), Due.BAD);
        Due.is("256", x.feed(256), Due.BAD);
        Due.is("0", x.feed(0), 1);
        Due.is("255", x.feed(255), 2);
        for (int i = 3; i <= 120; i++) {
            Due.is("feed", x.feed('b'), i);
        }
        Due.is("121st", x.feed('b'), Due.FULL);
        Due.is("BAD ahead of FULL", x.feed(256), Due.BAD);
        Due.is("bytes", x.count(7), 120);
        Due.is("FULL changes nothing", x.feed('k'), Due.FULL);
        Due.is("a byte that is none", x.castle(), -1000100);
        Due.is("empty then", x.count(7), 0);
        Due.is("from the first on", x.feed('k'), 1);
        ChalkCastle y = Due.of("k1,0;b1;b12;");
        Due.is("what was on the tape is gone", Due.read(y, "k1,0;b1;b1"), -1000110);
    }

    private static void readsCastles() {
        ChalkCastle x = Due.of("k9,10;b30;b01;b5;r1,0;r02,1;c9;s1;p2;y3;");
        Due.is("blocks", x.count(1), 3);
        Due.is("rests", x.count(2), 2);
        Due.is("clerks", x.count(3), 4);
        Due.is("chalk 0", x.block(0, 0), 30);
        Due.is("chalk 1", x.block(1, 0), 1);
        Due.is("chalk 2", x.block(2, 0), 5);
        Due.is("2 rests on", x.block(2, 2), 2);
        Due.is("hand", x.clerk(0, 0), 9);
        Due.is("all stand", x.stand(0), 7);
        Due.is("fewer", Due.read(x, "k1,0;b2;l4;"), 1);
        Due.is("no more blocks", x.block(1, 0), Due.BAD);
        Due.is("no rests", x.count(2), 0);
        Due.is("one clerk", x.count(3), 1);
        Due.is("a lawyer", x.kind(0), 5);
        x.write(0, 1, 0);
        Due.is("anew", Due.read(x, "k1,0;b9;c1;"), 1);
        Due.is("no lines", x.count(5), 0);
        x.write(0, 1, 0);
        x.days(2);
        Due.is("anew again", Due.read(x, "k1,0;b9;c1;"), 1);
        Due.is("chalk", x.stand(2), 9);
        Due.is("no dust", x.stand(3), 0);
        Due.is("no lines", x.clerk(0, 1), 0);
        Due.is("day 0", x.count(4), 0);
        Due.is("no act", x.undo(), Due.STATE);
        Due.is("never a fault", x.fault(), 0);
        Due.is("rests, no clerks", Due.read(x, "k1,0;b9;b1;r1,0;"), 2);
        Due.is("clerks are gone", x.count(3), 0);
        Due.is("most of all", Due.read(x, "k9,10;b1;b1;b1;b1;b1;b1;b1;b1;r1,0;r2,0;r3,0;r4,0;r5,0;r6,0;"
            + "r7,0;r7,1;r7,2;r7,3;r7,4;r7,5;c9;c9;c9;c9;"), 8);
        Due.is("twelve rests", x.count(2), 12);
        Due.is("7 rests on", x.block(7, 2), 63);
    }

    private static void findsTokensThatCannotStand() {
        Due.fault("", 1, 0);
        Due.fault("b1;", 1, 0);
        Due.fault("K1,0;", 1, 0);
        Due.fault(" k1,0;b1;", 1, 0);
        Due.fault("k,0;b1;", 1, 1);
        Due.fault("k1", 1, 2);
        Due.fault("k1;0;b1;", 1, 2);
        Due.fault("k1,;b1;", 1, 3);
        Due.fault("k1,0,b1;", 1, 4);
        Due.fault("k1,0;r1,0;", 1, 5);
        Due.fault("k1,0;c1;", 1, 5);
        Due.fault("k1,0;b;", 1, 6);
        Due.fault("k1,0;b1,", 1, 7);
        Due.fault("k1,0;b1;k", 1, 8);
        Due.fault("k1,0;b1;;", 1, 8);
        Due.fault("k1,0;b1;1", 1, 8);
        Due.fault("k1,0;b1; ", 1, 8);
        Due.fault("k1,0;b1;b", 1, 9);
        Due.fault("k1,0;b1;b1;r1,0;b1;", 1, 16);
        Due.fault("k1,0;b1;b1;c1;r1,0;", 1, 14);
        Due.fault("k1,0;b1;c1;b1;", 1, 11);
        Due.fault("k1,0;b1;cc1;", 1, 9);
        Due.fault("k1,0;b1;c;", 1, 9);
        Due.fault("k1,0;b1;b1;r1;0;", 1, 13);
        Due.fault("k1,0;b1;b1;r,0;", 1, 12);
        Due.fault("k1,0;b1;b1;r1,;", 1, 14);
        Due.fault("k1,0;b1;b1;r1,0", 1, 15);
        Due.fault("k1,0;b001;", 1, 6);
        Due.fault("k1,0;b1234;", 1, 6);
        Due.fault("k000,0;b1;", 1, 1);
        Due.fault("k1,0;b1;c001;", 1, 9);
        Due.fault("k1 ,0;b1;", 1, 2);
    }

    private static void findsNumbersNotAsTold() {
        Due.fault("k0,0;b1;", 2, 1);
        Due.fault("k10,0;b1;", 2, 1);
        Due.fault("k00,x", 2, 1);
        Due.fault("k1,11;b1;", 2, 3);
        Due.fault("k1,0;b0;", 2, 6);
        Due.fault("k1,0;b31;", 2, 6);
        Due.fault("k1,0;b99?", 2, 6);
        Due.fault("k1,0;b1;b1;r2,0;", 2, 12);
        Due.fault("k1,0;b1;b1;r99,0;", 2, 12);
        Due.fault("k1,0;b1;b1;r0,0;", 2, 14);
        Due.fault("k1,0;b1;b1;r1,1;", 2, 14);
        Due.fault("k1,0;b1;b1;r0,1;", 2, 14);
        Due.fault("k1,0;b1;b1;r1,2;", 2, 14);
        Due.fault("k1,0;b1;b1;r1,0;r1,00;", 2, 19);
        Due.fault("k1,0;b1;b1;r1,0;r1,0", 2, 19);
        Due.fault("k1,0;b1;y0;", 2, 9);
        Due.fault("k1,0;b1;y10;", 2, 9);
    }

    private static void findsNoRoom() {
        String blocks = "k1,0;b1;b1;b1;b1;b1;b1;b1;b1;";
        String rests = "r1,0;r2,0;r3,0;r4,0;r5,0;r6,0;r7,0;r7,1;r7,2;r7,3;r7,4;r7,5;";
        Due.fault(blocks + "b", 3, 29);
        Due.fault(blocks + "b99;", 3, 29);
        Due.fault(blocks + rests + "r7,6;", 3, 89);
        Due.fault(blocks + rests + "r0,0;", 3, 89);
        Due.fault(blocks + rests + "b1;", 1, 89);
        Due.fault(blocks + "c1;s1;p1;y1;l1;", 3, 41);
        Due.fault(blocks + "c1;s1;p1;y1;r1,0;", 1, 41);
        Due.fault(blocks + "c1;s1;p1;y1;b1;", 1, 41);
    }

    private static void keepsAllAtAFault() {
        ChalkCastle x = Due.of("k1,5;b9;b8;r1,0;c2;");
        x.write(0, 2, 1);
        x.days(1);
        x.image(0);
        Due.is("a fault", Due.read(x, "k1,0;b2;b2;b0;"), -1000112);
        Due.is("its number", x.fault(), 2);
        Due.is("chalk stays", x.block(1, 0), 4);
        Due.is("dust stays", x.stand(3), 4);
        Due.is("the day stays", x.count(4), 1);
        Due.is("lines stay", x.clerk(0, 1), 2);
        Due.is("blocks stay", x.count(1), 2);
        Due.is("acts can be undone", x.count(6), 2);
        Due.is("another fault", Due.read(x, "k"), -1000101);
        Due.is("the latest one", x.fault(), 1);
        Due.is("none now", Due.read(x, "k1,0;b2;"), 1);
        Due.is("still the latest one", x.fault(), 1);
    }
}
