/** What the tests share: counting answers, feeding texts, filling rows. */
final class Due {
    static final int NONE = -1000000, BAD = -1000001, STATE = -1000002, FULL = -1000003;
    static final int NULL = -1000011, PLACE = -1000012, KIND = -1000013, SIZE = -1000014, STORE = -1000015;

    private static int answers = 0;
    private static int wrong = 0;
    private static String under = "";

    private Due() {
    }

    /** What is said ahead of each answer that is not as due, from now on. */
    static void under(String said) {
        under = said;
    }

    static void is(String what, long got, long want) {
        answers++;
        if (got != want) {
            wrong++;
            System.out.println(under + what + " answered " + got + ", due is " + want);
        }
    }

    static void holds(String what, boolean so) {
        is(what, so ? 1 : 0, 1);
    }

    static void end(String test) {
        System.out.println(test + ": " + answers + " answers, " + wrong + " not as due");
        if (wrong != 0 || answers == 0) {
            System.exit(1);
        }
    }

    static int read(ChalkCastle castle, String text) {
        for (int i = 0; i < text.length(); i++) {
            is("feed in " + text, castle.feed(text.charAt(i)), i + 1);
        }
        return castle.castle();
    }

    static ChalkCastle of(String text) {
        ChalkCastle castle = new ChalkCastle();
        int blocks = read(castle, text);
        holds("castle() of " + text + " is read", blocks > 0);
        return castle;
    }

    /** A row of ints with these items. */
    static void fill(ChalkCastle castle, int row, int... items) {
        is("row", castle.row(row, 2, items.length), items.length);
        for (int i = 0; i < items.length; i++) {
            is("set", castle.set(row, i, items[i]), items[i]);
        }
    }

    /** All that can be seen of an object without changing it, but for its rows' items and its status. */
    static String seen(ChalkCastle x) {
        StringBuilder text = new StringBuilder();
        for (int what = 0; what < 8; what++) {
            text.append(x.count(what)).append(' ');
        }
        for (int b = 0; b < x.count(1); b++) {
            text.append(x.block(b, 0)).append(' ').append(x.block(b, 2)).append(' ');
        }
        for (int c = 0; c < x.count(3); c++) {
            text.append(x.clerk(c, 0)).append(' ').append(x.clerk(c, 1)).append(' ').append(x.kind(c)).append(' ');
        }
        for (int i = 0; i < 6; i++) {
            text.append(x.trace(i)).append(' ');
        }
        return text.append(x.stand(3)).append(' ').append(x.fault()).toString();
    }

    static void fault(String text, int number, int place) {
        ChalkCastle castle = new ChalkCastle();
        is("castle() of " + text, read(castle, text), -1000100 - place);
        is("fault() of " + text, castle.fault(), number);
        is("blocks after a fault in " + text, castle.count(1), 0);
        is("the tape after a fault in " + text, castle.count(7), 0);
    }
}
