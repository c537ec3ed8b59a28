import java.util.Random;

/** One drawn call, made of the class and of the model alike. The seed is told, so a run is always the same. */
final class Drawn {
    final Random random;
    /** How many of 100 numbers are wild. */
    final int wild;

    Drawn(long seed, int wild) {
        this.random = new Random(seed);
        this.wild = wild;
    }

    private static final int[] EDGES = {Integer.MIN_VALUE, Integer.MIN_VALUE + 1, -1000000, -2, -1, 0, 1, 2, 7, 8,
        9, 30, 31, 32, 40, 41, 60, 61, 255, 256, 999, 1000, 1000000, Integer.MAX_VALUE - 1, Integer.MAX_VALUE};

    int number(int from, int to) {
        if (random.nextInt(100) < wild) {
            int pick = random.nextInt(4);
            return pick == 0 ? from - 1 : pick == 1 ? to + 1 : pick == 2 ? random.nextInt()
                : EDGES[random.nextInt(EDGES.length)];
        }
        return from + random.nextInt(to - from + 1);
    }

    /** A text that is mostly right. */
    String text(int faulty) {
        StringBuilder text = new StringBuilder();
        int blocks = 1 + random.nextInt(8);
        text.append('k').append(1 + random.nextInt(9)).append(',').append(random.nextInt(11)).append(';');
        int most = random.nextBoolean() ? 30 : 6;
        for (int b = 0; b < blocks; b++) {
            text.append('b').append(1 + random.nextInt(most)).append(';');
        }
        boolean[] seen = new boolean[64];
        int rests = blocks < 2 ? 0 : random.nextInt(13);
        for (int i = 0; i < rests; i++) {
            int upper = 1 + random.nextInt(blocks - 1);
            int lower = random.nextInt(upper);
            if (!seen[8 * upper + lower]) {
                seen[8 * upper + lower] = true;
                text.append('r').append(upper).append(',').append(lower).append(';');
            }
        }
        int clerks = random.nextInt(5);
        for (int c = 0; c < clerks; c++) {
            int hand = random.nextInt(3) == 0 ? 1 + random.nextInt(9) : 1 + random.nextInt(3);
            text.append("cspyl".charAt(random.nextInt(5))).append(hand).append(';');
        }
        for (int i = random.nextInt(4); i > 0 && random.nextInt(100) < faulty; i--) {
            spoil(text);
        }
        return text.substring(0, Math.min(120, text.length()));
    }

    private void spoil(StringBuilder text) {
        String some = "kbrcspyl0123456789,; B?";
        int at = random.nextInt(text.length());
        char letter = some.charAt(random.nextInt(some.length()));
        int pick = random.nextInt(5);
        if (pick == 0) {
            text.deleteCharAt(at);
            if (text.length() == 0) {
                text.append(letter);
            }
        } else if (pick == 1) {
            text.insert(at, letter);
        } else if (pick == 2) {
            text.setLength(Math.max(1, at));
        } else if (pick == 3) {
            int end = text.indexOf(";", at);
            text.append(end < 0 ? "" : text.substring(at, end + 1));
        } else {
            text.setCharAt(at, letter);
        }
    }

    void call(ChalkCastle x, PlainCastle y) {
        int a = 0;
        int b = 0;
        int c = 0;
        int d = 0;
        switch (random.nextInt(40)) {
            case 0: a = number(0, 7); b = number(0, 2); c = number(0, 20);
                Due.is("row " + a + " " + b + " " + c, x.row(a, b, c), y.row(a, b, c)); break;
            case 1: a = number(0, 7); b = number(0, 20); c = random.nextBoolean() ? number(0, 8) : random.nextInt();
                Due.is("set " + a + " " + b + " " + c, x.set(a, b, c), y.set(a, b, c)); break;
            case 2: a = number(0, 7); b = number(0, 9); c = number(0, 7); d = number(0, 9);
                int n = number(0, 9);
                Due.is("copy", x.copy(a, b, c, d, n), y.copy(a, b, c, d, n)); break;
            case 3: a = number(0, 30);
                Due.is("drop " + a, x.drop(a), y.drop(a)); break;
            case 4: a = number(0, 255);
                if (wild > 20) {
                    Due.is("feed " + a, x.feed(a), y.feed(a));
                }
                break;
            case 5: case 6:
                Due.is("undo", x.undo(), y.undo()); break;
            case 7: case 8: case 9: case 10: a = number(0, 3); b = number(1, 6); c = number(0, 7);
                Due.is("write " + a + " " + b + " " + c, x.write(a, b, c), y.write(a, b, c)); break;
            case 11: a = number(1, 20); b = number(0, 7);
                Due.is("rub " + a + " " + b, x.rub(a, b), y.rub(a, b)); break;
            case 12: if (random.nextInt(3) == 0) {
                    Due.is("rain", x.rain(), y.rain());
                }
                break;
            case 13: a = number(1, random.nextInt(5) == 0 ? 24 : 2);
                Due.is("days " + a, x.days(a), y.days(a)); break;
            case 14: a = number(0, 7); b = number(0, 3);
                Due.is("block " + a + " " + b, x.block(a, b), y.block(a, b)); break;
            case 15: a = number(0, 3); b = number(0, 1);
                Due.is("clerk " + a + " " + b, x.clerk(a, b), y.clerk(a, b)); break;
            case 16: a = number(0, 3); b = number(1, 30);
                Due.is("takes " + a + " " + b, x.takes(a, b), y.takes(a, b)); break;
            case 17: a = number(0, 4);
                Due.is("stand " + a, x.stand(a), y.stand(a)); break;
            case 18: a = number(0, (1 << x.count(1)) - 1);
                Due.is("wouldFall " + a, x.wouldFall(a), y.wouldFall(a)); break;
            case 19: a = number(0, 3);
                Due.is("left " + a, x.left(a), y.left(a)); break;
            case 20: case 21: case 22:
                a = number(0, 240); b = number(0, (1 << x.count(1)) - 1) & (random.nextBoolean() ? -1 : 0x49);
                if (random.nextInt(4) != 0 && x.count(1) > 0) {
                    a = Math.max(0, x.stand(2) - random.nextInt(9));
                }
                c = number(0, 1);
                Due.is("leastFallen " + a + " " + b + " " + c, x.leastFallen(a, b, c), y.leastFallen(a, b, c)); break;
            case 23:
                Due.is("must", x.must(), y.must()); break;
            case 24: case 25: case 26: writings(x, y); break;
            case 27: case 28: from(x, y); break;
            case 29: who(x, y); break;
            case 30: a = number(0, 7);
                Due.is("layer " + a, x.layer(a), y.layer(a)); break;
            case 31: a = number(0, 3); b = number(0, 1);
                Due.is("longest " + a + " " + b, x.longest(a, b), y.longest(a, b)); break;
            case 32: a = number(0, 7); b = number(0, 10); c = number(0, 1);
                Due.is("rains " + a + " " + b + " " + c, x.rains(a, b, c), y.rains(a, b, c)); break;
            case 33: a = number(0, 3); b = number(0, 1);
                Due.is("share " + a + " " + b, x.share(a, b), y.share(a, b)); break;
            case 34: a = number(0, 60); b = number(1, 999999); c = number(0, 1);
                Due.is("drawn " + a + " " + b + " " + c, x.drawn(a, b, c), y.drawn(a, b, c)); break;
            case 35: a = number(0, 1);
                Due.is("image " + a, x.image(a), y.image(a)); break;
            case 36: a = number(0, 1);
                if (random.nextInt(3) == 0) {
                    Due.is("restore " + a, x.restore(a), y.restore(a));
                }
                break;
            case 37: a = number(0, 3); b = number(0, 5);
                Due.is("kind " + a, x.kind(a), y.kind(a));
                Due.is("as " + a + " " + b, x.as(a, b), y.as(a, b)); break;
            case 38: a = number(0, 3); b = number(0, 1);
                Due.is("ask " + a + " " + b, x.ask(a, b), y.ask(a, b));
                for (int i = -1; i < 7; i++) {
                    Due.is("trace " + i, x.trace(i), y.trace(i));
                }
                break;
            default: a = number(0, 7);
                Due.is("count " + a, x.count(a), y.count(a));
                Due.is("fault", x.fault(), y.fault()); break;
        }
        Due.is("status", x.status(), y.status());
    }

    private void item(ChalkCastle x, PlainCastle y, int row, int i, int v) {
        Due.is("set " + row + " " + i + " " + v, x.set(row, i, v), y.set(row, i, v));
    }

    private void writings(ChalkCastle x, PlainCastle y) {
        int row = number(0, 7);
        int i = number(0, 3);
        int n = number(1, 4);
        if (random.nextInt(4) != 0) {
            int lane = random.nextInt(3);
            Due.is("row", x.row(row, lane, 12), y.row(row, lane, 12));
            int clerks = Math.max(1, x.count(3));
            for (int t = 0; t < n && t < 4; t++) {
                item(x, y, row, i + 2 * t, number(0, clerks - 1));
                item(x, y, row, i + 2 * t + 1, number(1, 5));
            }
        }
        for (int k = -1; k <= 1; k++) {
            int told = number(k, 4);
            Due.is("writings " + row + " " + i + " " + n + " " + told,
                x.writings(row, i, n, told), y.writings(row, i, n, told));
        }
    }

    private void from(ChalkCastle x, PlainCastle y) {
        int row = number(0, 7);
        int i = number(0, 3);
        if (random.nextInt(4) != 0) {
            Due.is("row", x.row(row, 0, 12), y.row(row, 0, 12));
            int one = random.nextInt(8);
            for (int b = 0; b < x.count(1); b++) {
                int less = b == one || random.nextInt(30) == 0 ? random.nextInt(8) : 0;
                item(x, y, row, i + b, x.block(b, 0) - less);
            }
        }
        for (int k = 0; k <= 1; k++) {
            int what = number(k, k);
            Due.is("from " + row + " " + i + " " + what, x.from(row, i, what), y.from(row, i, what));
        }
    }

    private void who(ChalkCastle x, PlainCastle y) {
        int clerk = number(0, 3);
        int row = number(0, 7);
        int i = number(0, 3);
        int n = number(1, random.nextInt(3) == 0 ? 8 : 2);
        if (random.nextInt(4) != 0) {
            Due.is("row", x.row(row, 1, 20), y.row(row, 1, 20));
            for (int t = 0; t < n && t < 8; t++) {
                int lines = number(1, 6);
                item(x, y, row, i + 2 * t, lines);
                item(x, y, row, i + 2 * t + 1, random.nextInt(9) == 0 ? 4 : x.takes(clerk, lines));
            }
        }
        Due.is("who " + clerk + " " + row + " " + i + " " + n, x.who(clerk, row, i, n), y.who(clerk, row, i, n));
    }
}
