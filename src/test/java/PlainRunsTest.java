/** Promises 1 to 37: drawn runs of calls, each answer held against the plain model's. */
public final class PlainRunsTest {
    public static void main(String[] args) {
        for (int run = 0; run < 400; run++) {
            runOf(run, 4, 12);
        }
        for (int run = 400; run < 500; run++) {
            runOf(run, 45, 60);
        }
        texts();
        Due.end("PlainRunsTest");
    }

    private static void tell(ChalkCastle x, PlainCastle y, String text) {
        for (int i = 0; i < text.length(); i++) {
            Due.is("feed", x.feed(text.charAt(i)), y.feed(text.charAt(i)));
        }
        Due.is("castle of " + text, x.castle(), y.castle());
        Due.is("fault of " + text, x.fault(), y.fault());
    }

    /** An object is good for 512 calls: two texts of up to 120 bytes and some calls. */
    private static void runOf(int seed, int wild, int faulty) {
        Drawn drawn = new Drawn(seed, wild);
        ChalkCastle x = new ChalkCastle();
        PlainCastle y = new PlainCastle();
        for (int part = 0; part < 2; part++) {
            tell(x, y, drawn.text(faulty));
            for (int i = 0; i < 45; i++) {
                drawn.call(x, y);
            }
            for (int what = 0; what < 8; what++) {
                Due.is("count " + what, x.count(what), y.count(what));
            }
            for (int what = 0; what < 5; what++) {
                Due.is("stand " + what, x.stand(what), y.stand(what));
            }
        }
    }

    private static void texts() {
        Drawn drawn = new Drawn(77, 0);
        for (int run = 0; run < 4000; run++) {
            ChalkCastle x = new ChalkCastle();
            PlainCastle y = new PlainCastle();
            tell(x, y, drawn.text(90));
            for (int what = 0; what < 8; what++) {
                Due.is("count " + what, x.count(what), y.count(what));
            }
        }
    }
}
