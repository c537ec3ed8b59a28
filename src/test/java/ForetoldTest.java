/** Promises 18 wouldFall to 31 restore, by cases that are reckoned by hand. */
public final class ForetoldTest {
    public static void main(String[] args) {
        tellsWhatWouldFall();
        tellsLeft();
        findsLeastFallen();
        tellsMust();
        findsWritings();
        refusesWritings();
        findsFrom();
        findsWho();
        tellsLayers();
        findsLongest();
        tellsRains();
        tellsShares();
        draws();
        keepsImages();
        Due.end("ForetoldTest");
    }

    private static void tellsWhatWouldFall() {
        ChalkCastle x = Due.of("k1,0;b3;b3;b3;b3;r1,0;r2,0;r2,1;r3,1;r3,2;y1;");
        Due.is("none", x.wouldFall(0), 0);
        Due.is("1 alone", x.wouldFall(2), 2);
        Due.is("1 and 2", x.wouldFall(6), 14);
        Due.is("0", x.wouldFall(1), 15);
        Due.is("all", x.wouldFall(15), 15);
        Due.is("16", x.wouldFall(16), Due.BAD);
        Due.is("-1", x.wouldFall(-1), Due.BAD);
        x.write(0, 3, 1);
        Due.is("1 does not stand now", x.wouldFall(2), 0);
        Due.is("2", x.wouldFall(4), 12);
        Due.is("nothing changes", x.stand(0), 13);
        Due.is("no castle ahead of BAD", new ChalkCastle().wouldFall(-1), Due.STATE);
    }

    private static void tellsLeft() {
        ChalkCastle x = Due.of("k1,0;b5;b8;b1;r1,0;c3;y1;s5;l2;");
        Due.is("a clerk", x.left(0), 1 + 2 + 0);
        Due.is("a boy on day 0", x.left(1), 14);
        Due.is("a short one", x.left(2), 1 + 2 + 0);
        Due.is("a lawyer", x.left(3), 1 + 2 + 0);
        x.days(1);
        Due.is("a boy on day 1", x.left(1), 2 + 4 + 0);
        x.write(1, 4, 0);
        Due.is("block 1 is fallen, but is written with", x.left(0), 2);
        Due.is("clerk 4", x.left(4), Due.BAD);
        Due.is("clerk -1", x.left(-1), Due.BAD);
    }

    private static void findsLeastFallen() {
        ChalkCastle x = Due.of("k1,0;b4;b6;b9;b2;r1,0;r2,0;r3,1;r3,2;y1;");
        Due.is("17 without any", x.leastFallen(17, 15, 0), 0);
        Due.is("the empty set", x.leastFallen(17, 15, 1), 0);
        Due.is("18: one", x.leastFallen(18, 0, 0), 1);
        Due.is("18: the least one", x.leastFallen(18, 0, 1), 2);
        Due.is("18, 1 is to stand", x.leastFallen(18, 2, 1), 4);
        Due.is("18, 1 and 2 are to stand", x.leastFallen(18, 6, 1), 8);
        Due.is("18, all are to stand", x.leastFallen(18, 15, 0), Due.NONE);
        Due.is("18, all are to stand", x.leastFallen(18, 15, 1), Due.NONE);
        Due.is("19: two", x.leastFallen(19, 0, 0), 2);
        Due.is("19: 1 and 3", x.leastFallen(19, 0, 1), 10);
        Due.is("19, 3 is to stand", x.leastFallen(19, 8, 1), Due.NONE);
        Due.is("20: three", x.leastFallen(20, 0, 0), 3);
        Due.is("20: 1 and 2, so 3", x.leastFallen(20, 0, 1), 6);
        Due.is("21: all", x.leastFallen(21, 0, 0), 4);
        Due.is("21: 0 is enough", x.leastFallen(21, 0, 1), 1);
        Due.is("22", x.leastFallen(22, 0, 0), Due.NONE);
        x.write(0, 6, 1);
        Due.is("1 is gone: 12 of 15", x.leastFallen(12, 15, 0), 0);
        Due.is("13: 2 bears 3, so 3 goes", x.leastFallen(13, 0, 1), 8);
        Due.is("13, a told one that does not stand", x.leastFallen(13, 2, 1), 8);
        Due.is("n 240", x.leastFallen(240, 0, 0), Due.NONE);
        Due.is("n 241", x.leastFallen(241, 0, 0), Due.BAD);
        Due.is("n -1", x.leastFallen(-1, 0, 0), Due.BAD);
        Due.is("blocks 16", x.leastFallen(0, 16, 0), Due.BAD);
        Due.is("blocks -1", x.leastFallen(0, -1, 0), Due.BAD);
        Due.is("what 2", x.leastFallen(0, 0, 2), Due.BAD);
        Due.is("what -1", x.leastFallen(0, 0, -1), Due.BAD);
        Due.is("no castle ahead of BAD", new ChalkCastle().leastFallen(-1, 0, 0), Due.STATE);
        ChalkCastle y = Due.of("k1,0;b3;b9;b2;r1,0;y1;");
        y.write(0, 3, 0);
        Due.is("a fallen one's chalk is all there", y.leastFallen(10, 0, 0), 0);
        Due.is("11", y.leastFallen(11, 0, 1), 4);
    }

    private static void tellsMust() {
        ChalkCastle x = Due.of("k1,0;b3;b3;b3;b3;b9;r1,0;r2,1;r3,1;y1;");
        Due.is("0 bears 4 of 5, 1 bears 3 of 5", x.must(), 3);
        x.write(0, 3, 3);
        Due.is("0 bears 3 of 4, 1 bears just 2 of 4", x.must(), 1);
        x.write(0, 3, 0);
        Due.is("4 alone stands", x.must(), 16);
        x.write(0, 9, 4);
        Due.is("none stand", x.must(), 0);
        Due.is("no castle", new ChalkCastle().must(), Due.STATE);
    }

    private static void findsWritings() {
        ChalkCastle x = Due.of("k1,0;b4;b4;b6;r1,0;y1;c2;");
        Due.fill(x, 0, 9, 0, 4, 1, 1, 0, 3);
        Due.is("4: all stand", x.writings(0, 1, 1, -1), 3);
        Due.is("with 2", x.writings(0, 1, 1, 0), 2);
        Due.is("4 and 2: 2 and 0", x.writings(0, 1, 2, -1), 3);
        Due.is("4 with", x.writings(0, 1, 2, 0), 2);
        Due.is("2 with the first", x.writings(0, 1, 2, 1), 0);
        Due.is("4, 2, 3: all stand", x.writings(0, 1, 3, -1), 3);
        Due.is("4 with", x.writings(0, 1, 3, 0), 2);
        Due.is("2 with", x.writings(0, 1, 3, 1), 0);
        Due.is("3 with", x.writings(0, 1, 3, 2), 1);
        Due.is("there is no k-th", x.writings(0, 1, 3, 3), Due.NONE);
        Due.is("nothing changes", x.stand(2), 14);
        Due.fill(x, 1, 0, 4, 0, 4, 0, 5);
        Due.is("4, 4, 5: no block is left that has none", x.writings(1, 0, 3, -1), 1);
        Due.is("4 with", x.writings(1, 0, 3, 0), 0);
        Due.is("4 with", x.writings(1, 0, 3, 1), 1);
        Due.is("5 with", x.writings(1, 0, 3, 2), 2);
        Due.fill(x, 2, 0, 5, 0, 5);
        Due.is("no way", x.writings(2, 0, 2, -1), Due.NONE);
        Due.is("no way", x.writings(2, 0, 2, 0), Due.NONE);
        Due.is("one way", x.writings(2, 0, 1, 0), 2);
        x.days(1);
        Due.is("6 today", x.writings(2, 0, 1, -1), 2);
    }

    private static void refusesWritings() {
        ChalkCastle x = new ChalkCastle();
        Due.is("no castle ahead of BAD", x.writings(9, 0, 1, 0), Due.STATE);
        Due.read(x, "k1,0;b4;b4;y1;c2;");
        Due.fill(x, 0, 1, 30, 0, 1, 2, 1, 0, 31, -1, 1, 0, 0);
        Due.is("row 8", x.writings(8, 0, 1, 0), Due.BAD);
        Due.is("row -1", x.writings(-1, 0, 1, 0), Due.BAD);
        Due.is("n 0", x.writings(0, 0, 0, 0), Due.BAD);
        Due.is("n 5", x.writings(0, 0, 5, 0), Due.BAD);
        Due.is("k -2", x.writings(0, 0, 1, -2), Due.BAD);
        Due.is("BAD ahead of NULL", x.writings(1, 0, 1, -2), Due.BAD);
        Due.is("missing", x.writings(1, 99, 1, 0), Due.NULL);
        Due.is("NULL", x.status(), 1);
        Due.is("beyond", x.writings(0, 11, 1, 0), Due.PLACE);
        Due.is("PLACE", x.status(), 2);
        Due.is("below", x.writings(0, -1, 1, 0), Due.PLACE);
        Due.is("far beyond", x.writings(0, Integer.MAX_VALUE, 4, 0), Due.PLACE);
        Due.is("PLACE ahead of an item", x.writings(0, 8, 4, 0), Due.PLACE);
        Due.is("clerk 2", x.writings(0, 4, 1, 0), Due.BAD);
        Due.is("31 lines", x.writings(0, 6, 1, 0), Due.BAD);
        Due.is("clerk -1", x.writings(0, 8, 1, 0), Due.BAD);
        Due.is("no lines", x.writings(0, 10, 1, 0), Due.BAD);
        Due.is("a later item", x.writings(0, 2, 2, 0), Due.BAD);
        Due.is("BAD leaves the finding", x.status(), 2);
        Due.is("no way", x.writings(0, 0, 1, 0), Due.NONE);
        Due.is("no finding", x.status(), 0);
        x.writings(1, 0, 1, 0);
        Due.is("a way", x.writings(0, 2, 1, -1), 2);
        Due.is("no finding by a way", x.status(), 0);
    }

    private static void findsFrom() {
        ChalkCastle x = Due.of("k1,0;b6;b5;y1;s1;c2;l1;");
        Due.fill(x, 0, 99, 4, 5);
        Due.is("2 of block 0: y 2, s 3 and 4, c 1, l 1", x.from(0, 1, 0), 5);
        Due.is("the first", x.from(0, 1, 1), 0);
        Due.fill(x, 0, 6, 0);
        Due.is("5 of block 1: y 5, s 9 and 10, l 4", x.from(0, 0, 0), 4);
        Due.is("the first", x.from(0, 0, 1), 1);
        x.days(4);
        Due.is("today: y 1, s 9 and 10", x.from(0, 0, 0), 3);
        Due.fill(x, 0, 6, 4);
        Due.is("1 of block 1 today: s 1 and 2", x.from(0, 0, 0), 2);
        Due.is("clerk 1, block 1", x.from(0, 0, 1), 11);
        Due.fill(x, 0, 6, 5);
        Due.is("nothing was written", x.from(0, 0, 0), 0);
        Due.is("none", x.from(0, 0, 1), Due.NONE);
        Due.fill(x, 0, 5, 4);
        Due.is("with two blocks", x.from(0, 0, 0), 0);
        Due.fill(x, 0, 6, 6);
        Due.is("more", x.from(0, 0, 0), 0);
        Due.fill(x, 0, 6, -1);
        Due.is("fewer than none", x.from(0, 0, 0), 0);
        Due.fill(x, 0, Integer.MIN_VALUE, 5);
        Due.is("far fewer than none", x.from(0, 0, 0), 0);
        Due.is("what 2", x.from(0, 0, 2), Due.BAD);
        Due.is("what -1", x.from(0, 0, -1), Due.BAD);
        Due.is("row 8", x.from(8, 0, 0), Due.BAD);
        Due.is("row -1", x.from(-1, 0, 0), Due.BAD);
        Due.is("missing", x.from(1, 0, 0), Due.NULL);
        Due.is("NULL", x.status(), 1);
        Due.is("beyond", x.from(0, 1, 0), Due.PLACE);
        Due.is("below", x.from(0, -1, 0), Due.PLACE);
        Due.is("PLACE", x.status(), 2);
        x.from(0, 0, 1);
        Due.is("no finding", x.status(), 0);
        Due.is("no castle ahead of BAD", new ChalkCastle().from(8, 0, 0), Due.STATE);
        ChalkCastle y = Due.of("k1,0;b6;");
        Due.fill(y, 0, 5);
        Due.is("no clerks", y.from(0, 0, 0), 0);
        ChalkCastle z = Due.of("k1,0;b30;y1;s2;");
        Due.fill(z, 0, 0);
        Due.is("30 lines", z.from(0, 0, 0), 2);
    }

    private static void findsWho() {
        ChalkCastle x = Due.of("k1,0;b6;c2;p3;");
        Due.fill(x, 0, 2, 4, 1, 3, 30, 4);
        Due.is("hand 2, 2 lines, 4: a clerk, a lawyer", x.who(0, 0, 0, 1), 1 << 1 | 1 << 5);
        Due.is("and 1 line, 3: a lawyer", x.who(0, 0, 0, 2), 1 << 5);
        Due.is("and 30 lines, 4: none", x.who(0, 0, 0, 3), 0);
        Due.is("hand 3, 1 line, 3: a clerk", x.who(1, 0, 2, 1), 1 << 1);
        Due.fill(x, 1, 1, 2, 1, 6, 1, 2, 5, 9);
        Due.is("hand 3, 1 line, 2: a short one", x.who(1, 1, 0, 1), 1 << 2);
        Due.is("hand 3, 1 line, 6: a poet", x.who(1, 1, 2, 1), 1 << 3);
        x.days(1);
        Due.is("day 1, 1 line, 2: a short one, a boy", x.who(1, 1, 4, 1), 1 << 2 | 1 << 4);
        Due.is("day 1, 5 lines, 9: a lawyer", x.who(1, 1, 6, 1), 1 << 5);
        Due.fill(x, 2, 30, 180, 0, 1, 31, 1, -1, 1, 1, 1, 1, 1, 1, 1, 1, 1, 1);
        Due.is("180: a poet", x.who(1, 2, 0, 1), 1 << 3);
        Due.is("no lines", x.who(0, 2, 2, 1), Due.BAD);
        Due.is("31 lines", x.who(0, 2, 4, 1), Due.BAD);
        Due.is("-1 lines", x.who(0, 2, 6, 1), Due.BAD);
        Due.is("a later item", x.who(0, 2, 0, 2), Due.BAD);
        Due.is("clerk 2", x.who(2, 0, 0, 1), Due.BAD);
        Due.is("clerk -1", x.who(-1, 0, 0, 1), Due.BAD);
        Due.is("row 8", x.who(0, 8, 0, 1), Due.BAD);
        Due.is("row -1", x.who(0, -1, 0, 1), Due.BAD);
        Due.is("n 0", x.who(0, 0, 0, 0), Due.BAD);
        Due.is("n 9", x.who(0, 0, 0, 9), Due.BAD);
        Due.is("n 8", x.who(0, 0, 0, 8), Due.PLACE);
        Due.is("PLACE ahead of an item", x.who(0, 2, 16, 1), Due.PLACE);
        Due.is("below", x.who(0, 0, -1, 1), Due.PLACE);
        Due.is("PLACE", x.status(), 2);
        x.who(0, 2, 2, 1);
        Due.is("BAD leaves the finding", x.status(), 2);
        Due.is("missing", x.who(0, 3, 0, 1), Due.NULL);
        x.who(0, 0, 0, 1);
        Due.is("no finding", x.status(), 0);
        Due.fill(x, 4, 1, 6, 2, 12, 3, 18, 1, 6, 2, 12, 3, 18, 1, 6, 2, 12);
        Due.is("eight times", x.who(1, 4, 0, 8), 1 << 3);
        Due.is("no castle", new ChalkCastle().who(0, 0, 0, 1), Due.BAD);
    }

    private static void tellsLayers() {
        ChalkCastle x = Due.of("k1,0;b1;b1;b1;b1;b1;r2,0;r3,2;r3,1;r4,1;y1;");
        Due.is("0", x.layer(0), 0);
        Due.is("1", x.layer(1), 0);
        Due.is("2", x.layer(2), 1);
        Due.is("3", x.layer(3), 2);
        Due.is("4", x.layer(4), 1);
        x.write(0, 1, 0);
        Due.is("what stands is one, where it is another", x.layer(3), 2);
        Due.is("block 5", x.layer(5), Due.BAD);
        Due.is("block -1", x.layer(-1), Due.BAD);
    }

    private static void findsLongest() {
        ChalkCastle x = Due.of("k1,10;b7;b9;b9;c2;s1;p5;l1;");
        Due.is("a clerk", x.longest(0, 0), 4);
        Due.is("with the first", x.longest(0, 1), 1);
        Due.is("a short one", x.longest(1, 0), 18);
        Due.is("a lawyer", x.longest(3, 0), 8);
        Due.is("a poet cannot", x.longest(2, 0), 0);
        Due.is("the first then", x.longest(2, 1), 0);
        x.days(9);
        Due.is("a lawyer cannot today", x.longest(3, 0), 0);
        Due.is("what 2", x.longest(0, 2), Due.BAD);
        Due.is("what -1", x.longest(0, -1), Due.BAD);
        Due.is("clerk 4", x.longest(4, 0), Due.BAD);
        Due.is("clerk -1", x.longest(-1, 0), Due.BAD);
        ChalkCastle y = Due.of("k1,0;b3;b29;b30;r1,0;s1;y1;");
        Due.is("30 at most", y.longest(0, 0), 30);
        Due.is("of several the first", y.longest(0, 1), 1);
        y.write(1, 3, 0);
        Due.is("a fallen one", y.longest(0, 1), 1);
        Due.is("30 with 30", y.longest(1, 0), 30);
    }

    private static void tellsRains() {
        ChalkCastle x = Due.of("k1,0;b1;b2;b3;b4;r2,0;r2,1;r3,2;y1;");
        Due.is("0 by 3: 7", x.rains(0, 3, 0), 7);
        Due.is("by 10", x.rains(0, 3, 1), 10);
        Due.is("2 by 5: 1 by 2 times 3 by 4", x.rains(2, 5, 0), 3);
        Due.is("by 8", x.rains(2, 5, 1), 8);
        Due.is("3 by 1: 81 by 100 times 99 by 100", x.rains(3, 1, 0), 8019);
        Due.is("by 10000", x.rains(3, 1, 1), 10000);
        Due.is("by 0", x.rains(3, 0, 0), 1);
        Due.is("by 0", x.rains(3, 0, 1), 1);
        Due.is("by 10", x.rains(3, 10, 0), 0);
        Due.is("by 10", x.rains(3, 10, 1), 1);
        x.write(0, 1, 0);
        Due.is("0 is gone: 2 by 5 is 1 by 4", x.rains(2, 5, 1), 4);
        Due.is("0 is gone", x.rains(0, 0, 0), 0);
        Due.is("0 is gone", x.rains(0, 0, 1), 1);
        Due.is("p 11", x.rains(0, 11, 0), Due.BAD);
        Due.is("p -1", x.rains(0, -1, 0), Due.BAD);
        Due.is("what 2", x.rains(0, 0, 2), Due.BAD);
        Due.is("what -1", x.rains(0, 0, -1), Due.BAD);
        Due.is("block 4", x.rains(4, 0, 0), Due.BAD);
        Due.is("block -1", x.rains(-1, 0, 0), Due.BAD);
    }

    private static void tellsShares() {
        ChalkCastle x = Due.of("k1,0;b30;y1;s1;y1;");
        Due.is("nobody wrote", x.share(0, 0), 0);
        Due.is("nobody wrote", x.share(0, 1), 1);
        x.write(0, 4, 0);
        x.write(1, 6, 0);
        Due.is("4 of 10", x.share(0, 0), 2);
        Due.is("4 of 10", x.share(0, 1), 5);
        Due.is("6 of 10", x.share(1, 0), 3);
        Due.is("0 of 10", x.share(2, 0), 0);
        Due.is("0 of 10", x.share(2, 1), 1);
        x.undo();
        Due.is("4 of 4", x.share(0, 0), 1);
        Due.is("4 of 4", x.share(0, 1), 1);
        Due.is("what 2", x.share(0, 2), Due.BAD);
        Due.is("what -1", x.share(0, -1), Due.BAD);
        Due.is("clerk 3", x.share(3, 0), Due.BAD);
        Due.is("clerk -1", x.share(-1, 0), Due.BAD);
    }

    private static void draws() {
        ChalkCastle x = Due.of("k2,0;b9;b3;y1;c2;");
        Due.is("none: what stands", x.drawn(0, 1, 0), 3);
        Due.is("none: no dust", x.drawn(0, 1, 1), 0);
        // X 16807: clerk 1 writes 3 with block 1, which has not so much.
        Due.is("one", x.drawn(1, 1, 1), 0);
        // X 282475249: clerk 1 writes 5 with block 1, which has not so much; no rain.
        Due.is("two", x.drawn(2, 1, 1), 0);
        // X 1622650073: clerk 1, block 1, not so much. X 984943658: clerk 0, on day 3, writes 4 with 0.
        Due.is("four", x.drawn(4, 1, 1), 7);
        // X 8 times 16807 leaves 0 by 4: clerk 0 writes 2 with block 0, and it rains.
        Due.is("seed 8", x.drawn(1, 8, 1), 2);
        Due.is("seed 8", x.drawn(1, 8, 0), 3);
        Due.is("nothing changes", x.stand(2), 12);
        Due.is("n -1", x.drawn(-1, 1, 0), Due.BAD);
        Due.is("n 61", x.drawn(61, 1, 0), Due.BAD);
        Due.is("seed 0", x.drawn(1, 0, 0), Due.BAD);
        // X 1774597664: clerk 0 writes 5 with block 0, and it rains.
        Due.is("seed 999999", x.drawn(1, 999999, 1), 5);
        Due.is("seed 999999", x.drawn(1, 999999, 0), 3);
        Due.is("n 60: all is rained away", x.drawn(60, 999999, 0), 0);
        Due.is("seed 1000000", x.drawn(1, 1000000, 0), Due.BAD);
        Due.is("what 2", x.drawn(1, 1, 2), Due.BAD);
        Due.is("what -1", x.drawn(1, 1, -1), Due.BAD);
        Due.is("no castle ahead of BAD", new ChalkCastle().drawn(-1, 1, 0), Due.STATE);
        x.write(0, 1, 0);
        Due.is("dust of the draws alone", x.drawn(4, 1, 1), 7);
        ChalkCastle y = Due.of("k3,0;b3;");
        Due.is("no clerks, but rain", y.drawn(1, 8, 0), 0);
        Due.is("no clerks, no dust", y.drawn(60, 8, 1), 0);
        Due.is("no rain", y.drawn(1, 1, 0), 1);
    }

    private static void keepsImages() {
        ChalkCastle x = new ChalkCastle();
        Due.is("image 2", x.image(2), Due.BAD);
        Due.is("image -1", x.image(-1), Due.BAD);
        Due.is("no castle", x.image(0), Due.STATE);
        Due.is("restore 2", x.restore(2), Due.BAD);
        Due.is("restore -1", x.restore(-1), Due.BAD);
        Due.is("none kept", x.restore(0), Due.STATE);
        Due.read(x, "k2,5;b9;b8;r1,0;c2;y3;");
        x.write(0, 3, 1);
        x.days(2);
        Due.is("image 0", x.image(0), 1);
        Due.is("acts stay", x.count(6), 3);
        x.write(1, 1, 0);
        Due.is("image 1", x.image(1), 1);
        Due.read(x, "k1,0;b7;l9;");
        Due.is("restore 0", x.restore(0), 1);
        Due.is("blocks", x.count(1), 2);
        Due.is("rests", x.block(1, 2), 1);
        Due.is("clerks", x.kind(1), 4);
        Due.is("hands", x.clerk(1, 0), 3);
        Due.is("chalk 0", x.block(0, 0), 9);
        Due.is("chalk 1", x.block(1, 0), 2);
        Due.is("dust", x.stand(3), 6);
        Due.is("day", x.count(4), 2);
        Due.is("lines", x.clerk(0, 1), 3);
        Due.is("no act", x.undo(), Due.STATE);
        Due.is("the law: 4 times 5 by 10", x.rub(4, 0), 11);
        Due.is("the law: rain 2", x.rain(), 1);
        Due.is("restore 1", x.restore(1), 1);
        Due.is("chalk 0", x.block(0, 0), 6);
        Due.is("no act", x.count(6), 0);
        Due.is("an image is not used up", x.restore(0), 1);
        Due.is("nor changed", x.block(0, 0), 9);
        x.write(0, 1, 0);
        x.image(0);
        x.undo();
        Due.is("undone", x.block(0, 0), 9);
        x.restore(0);
        Due.is("kept anew", x.block(0, 0), 7);
    }
}
