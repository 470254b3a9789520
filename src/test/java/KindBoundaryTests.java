// Boundary cases of promises 25 to 29: kinds of clerks, images, counts, the trace.
public final class KindBoundaryTests {
    private static final int BAD = -1, STATE = -2, NONE = -9, NO = -1000000;
    private static final int LOW = Integer.MIN_VALUE, HIGH = Integer.MAX_VALUE;
    private static final Boundaries b = new Boundaries("KindBoundaryTests");

    public static void main(String[] args) {
        ratesOfNone();
        leastAndMostRates();
        kept();
        backOfNone();
        backOfAll();
        counts();
        traces();
        b.finish(25, 29);
    }

    private static void ratesOfNone() {
        b.test(25, "RATE. NO: BAD", "kind -1, 6 and farther", () -> {
            int[] kinds = {-1, 6, LOW, HIGH};
            for (int kind : kinds) {
                b.unchanged("rate(" + kind + ", 0)", x -> x.rate(kind, 0), NO, Boundaries::bare, Boundaries::usual,
                    Boundaries::full);
            }
        });
        b.test(25, "RATE. NO: BAD", "no clerk yet, below the first, above the last, for every kind", () -> {
            for (int kind = 0; kind < 6; kind++) {
                int asked = kind;
                b.unchanged("rate(" + kind + ", 0)", x -> x.rate(asked, 0), NO, Boundaries::bare);
                b.unchanged("rate(" + kind + ", 3)", x -> x.rate(asked, 3), NO, Boundaries::usual);
                b.unchanged("rate(" + kind + ", 6)", x -> x.rate(asked, 6), NO, Boundaries::full);
                b.unchanged("rate(" + kind + ", -1)", x -> x.rate(asked, -1), NO, Boundaries::usual, Boundaries::full);
            }
            b.unchanged("rate(0, LOW)", x -> x.rate(0, LOW), NO, Boundaries::full);
            b.unchanged("rate(0, HIGH)", x -> x.rate(0, HIGH), NO, Boundaries::full);
        });
        b.test(25, "`NO = -1000000`: What none is, where a number may be below 0", "a rate of -1 is a rate", () -> {
            NineHands x = Check.told("clerk 3 0 0 10;");
            b.due("rate(0, 0)", x.rate(0, 0), -1);
            b.due("trace()", x.trace(), 1);
        });
    }

    private static void rates(NineHands x, int c, int... want) {
        for (int kind = 0; kind < 6; kind++) {
            b.due("rate(" + kind + ", " + c + ")", x.rate(kind, c), want[kind]);
        }
    }

    private static void leastAndMostRates() {
        b.test(25, "CLERK LEAN less 4", "LEAN 0, 4 and 8, nothing else", () -> {
            NineHands x = Check.told("clerk 0 0 0 10;clerk 4 0 0 10;clerk 8 0 0 10;");
            rates(x, 0, -4, -4, -4, -8, -4, -4);
            rates(x, 1, 0, 0, 0, 0, 1, 0);
            rates(x, 2, 4, 4, 4, 8, 6, 4);
        });
        b.test(25, "TWIN up, and how many MARKS he SETS", "none, each alone, all three", () -> {
            NineHands x = Check.told("clerk4 0 0 10;clerk4 1 0 10;clerk4 2 0 10;clerk4 4 0 10;clerk4 5 0 10;clerk4 7 0 10;");
            int[] want = {0, 1, 1, 1, 2, 3};
            for (int c = 0; c < 6; c++) {
                b.due("rate(1, " + c + ")", x.rate(1, c), want[c]);
                b.due("rate(3, " + c + ")", x.rate(3, c), 2 * want[c]);
                b.due("rate(2, " + c + ")", x.rate(2, c), 0);
            }
        });
        b.test(25, "MOCKER up less how many he DROPS", "none, each alone, all three", () -> {
            NineHands x = Check.told("clerk4 0 0 10;clerk4 0 1 10;clerk4 0 2 10;clerk4 0 4 10;clerk4 0 6 10;clerk4 0 7 10;");
            int[] want = {0, -1, -1, -1, -2, -3};
            for (int c = 0; c < 6; c++) {
                b.due("rate(2, " + c + ")", x.rate(2, c), want[c]);
                b.due("rate(1, " + c + ")", x.rate(1, c), 0);
            }
        });
        b.test(25, "LEFT up, and his number", "number 0 and 5", () -> {
            NineHands x = Check.told("clerk0 0 7 10;".repeat(6));
            b.due("rate(4, 0)", x.rate(4, 0), -7);
            b.due("rate(4, 5)", x.rate(4, 5), -2);
        });
        b.test(25, "HASTY up, and 10 less KEEPS", "KEEPS 0, 10", () -> {
            NineHands x = Check.told("clerk 8 0 0 0;clerk 8 0 0 10;clerk 0 0 0 0;");
            b.due("rate(5, 0)", x.rate(5, 0), 14);
            b.due("rate(5, 1)", x.rate(5, 1), 4);
            b.due("rate(5, 2)", x.rate(5, 2), 6);
        });
        b.test(25, "CONSTANT twice up", "the most and the least", () -> {
            b.due("rate(3, 0)", Check.told("clerk 8 7 0 0;").rate(3, 0), 14);
            b.due("rate(3, 0)", Check.told("clerk 0 0 7 0;").rate(3, 0), -8);
        });
    }

    private static void kept() {
        b.test(26, "IMAGES 0, 1 keep THE LETTER and THE LOT", "image -1, 2 and farther", () -> {
            int[] images = {-1, 2, LOW, HIGH};
            for (int image : images) {
                b.bad("keep(" + image + ")", x -> x.keep(image));
            }
        });
        b.test(26, "An IMAGE is kept: how many LINES", "one line, ten lines", () -> {
            b.due("keep(0)", new NineHands().keep(0), 1);
            b.due("keep(1)", new NineHands().keep(1), 1);
            b.due("keep(0)", Boundaries.full().keep(0), 10);
            b.due("keep(1)", Boundaries.full().keep(1), 10);
        });
        b.test(26, "An IMAGE is kept: how many LINES", "one was kept already: the new one stands there alone", () -> {
            NineHands x = Boundaries.full();
            while (x.count(1) > 1) {
                x.undo();
            }
            x.lot(5);
            b.due("keep(0)", x.keep(0), 1);
            b.due("back(1)", x.back(1), 10);
            b.due("back(0)", x.back(0), 1);
            b.due("lot(0)", x.lot(0), 5);
            b.due("line(1, 0)", x.line(1, 0), BAD);
        });
        b.test(26, "An IMAGE is kept: how many LINES", "what is written behind it is not in it", () -> {
            NineHands x = Boundaries.usual();
            x.keep(1);
            x.undo();
            x.undo();
            x.forge(0, 0);
            x.write(2);
            x.lot(3);
            b.due("back(1)", x.back(1), 4);
            int[] tones = {3, 4, 3, 9};
            int[] marks = {2, 3, 2, 7};
            int[] writers = {NONE, 0, 1, NONE};
            for (int i = 0; i < 4; i++) {
                b.due("line(" + i + ", 0)", x.line(i, 0), tones[i]);
                b.due("line(" + i + ", 1)", x.line(i, 1), marks[i]);
                b.due("line(" + i + ", 2)", x.line(i, 2), writers[i]);
            }
        });
    }

    private static void backOfNone() {
        b.test(27, "IMAGES 0, 1 keep THE LETTER and THE LOT", "image -1, 2 and farther", () -> {
            int[] images = {-1, 2, LOW, HIGH};
            for (int image : images) {
                b.bad("back(" + image + ")", x -> x.back(image));
            }
        });
        b.test(27, "STATE: none was kept", "neither, or the other one alone", () -> {
            b.unchanged("back(0)", x -> x.back(0), STATE, Boundaries::bare);
            b.unchanged("back(1)", x -> x.back(1), STATE, Boundaries::bare, Boundaries::usual);
            NineHands x = new NineHands();
            x.keep(1);
            b.due("back(0)", x.back(0), STATE);
            b.due("back(1)", x.back(1), 1);
        });
        b.test(27, "the first of these: BAD", "no such image, and none was kept", () -> {
            b.due("back(2)", new NineHands().back(2), BAD);
            b.due("back(-1)", new NineHands().back(-1), BAD);
        });
        b.test(27, "IMAGES are gone", "read anew, also by no text; not by a text with a fault", () -> {
            NineHands x = Boundaries.full();
            b.due("type('?', 1)", Check.typed(x, "?"), -3);
            x.clear();
            Check.typed(x, "?");
            b.due("chancery()", x.chancery(), -10);
            b.due("back(0)", x.back(0), 10);
            x.clear();
            b.due("chancery()", x.chancery(), 0);
            b.due("back(0)", x.back(0), STATE);
            b.due("back(1)", x.back(1), STATE);
            b.due("keep(0)", x.keep(0), 1);
            b.due("back(0)", x.back(0), 1);
        });
    }

    private static void backOfAll() {
        String all = "All of that becomes as an IMAGE has it: how many LINES";
        b.test(27, all, "from one line to ten, from ten to one", () -> {
            NineHands x = Check.told("clerk 5 1 0 10;letter 0 0;");
            x.keep(0);
            for (int k = 0; k < 9; k++) {
                x.write(0);
            }
            x.keep(1);
            b.due("back(0)", x.back(0), 1);
            b.due("line(1, 0)", x.line(1, 0), BAD);
            b.due("undo()", x.undo(), STATE);
            b.due("back(1)", x.back(1), 10);
            b.due("line(9, 0)", x.line(9, 0), 9);
            b.due("line(9, 1)", x.line(9, 1), 1);
            b.due("line(9, 2)", x.line(9, 2), 0);
            b.due("rows()", x.rows(), 1);
        });
        b.test(27, all, "back as if nothing had been: nothing changes", () -> {
            b.unchanged("back(0)", x -> x.back(0), 10, Boundaries::full);
            b.unchanged("back(0) again", x -> x.back(0), 2, () -> {
                NineHands y = Boundaries.usual();
                y.back(0);
                return y;
            });
        });
        b.test(27, all, "the lot with it, also one that is below 0 or 0", () -> {
            NineHands x = new NineHands();
            x.lot(LOW);
            x.keep(0);
            x.lot(0);
            x.keep(1);
            x.lot(HIGH);
            x.back(0);
            b.due("lot(7)", x.lot(7), LOW);
            x.back(1);
            b.due("lot(7)", x.lot(7), 0);
        });
        b.test(27, all, "an image stays as it was, however often it comes back", () -> {
            NineHands x = Boundaries.usual();
            for (int k = 0; k < 3; k++) {
                b.due("back(0)", x.back(0), 2);
                b.due("line(1, 0)", x.line(1, 0), 4);
                x.undo();
                x.forge(0, 0);
                x.forge(1, 1);
            }
        });
        b.test(27, "nothing else", "clerks, text, signed lines, copies, the trace stay", () -> {
            NineHands x = Boundaries.full();
            x.forget();
            x.burn();
            x.clear();
            x.rate(0, 0);
            b.due("back(0)", x.back(0), 10);
            b.due("count(0)", x.count(0), 6);
            b.due("count(2)", x.count(2), 0);
            b.due("count(3)", x.count(3), 0);
            b.due("count(4)", x.count(4), 0);
            b.due("trace()", x.trace(), 1012);
        });
    }

    private static void counts() {
        b.test(28, "0 CLERKS, 1 LINES, 2 SIGNED, 3 COPIES, 4 bytes of THE TEXT", "what -1, 5 and farther", () -> {
            int[] whats = {-1, 5, LOW, HIGH};
            for (int what : whats) {
                b.bad("count(" + what + ")", x -> x.count(what));
            }
        });
        b.test(28, "0 CLERKS, 1 LINES, 2 SIGNED, 3 COPIES, 4 bytes of THE TEXT", "the least and the most of all", () -> {
            int[] least = {0, 1, 0, 0, 0};
            int[] most = {6, 10, 8, 8, 200};
            for (int what = 0; what < 5; what++) {
                int asked = what;
                b.unchanged("count(" + what + ")", x -> x.count(asked), least[what], Boundaries::bare);
                b.unchanged("count(" + what + ")", x -> x.count(asked), most[what], Boundaries::full);
            }
        });
    }

    private static void traces() {
        b.test(29, "THE TRACE, 0 at first", "nothing but rate() adds to it", () -> {
            NineHands x = Boundaries.usual();
            b.due("trace()", x.trace(), 11);
            x.makes(0, 0, 0);
            x.who(1, 0);
            x.odds(0, 1, 0);
            x.order(7, 0, 0);
            x.drift(7, 0);
            b.due("trace()", x.trace(), 11);
            b.unchanged("trace()", y -> y.trace(), 11, Boundaries::usual);
        });
        b.test(29, "as often as rate() asks that body: each once", "every kind alone", () -> {
            long[] bodies = {1, 11, 101, 1011, 10101, 100001};
            for (int kind = 0; kind < 6; kind++) {
                NineHands x = Check.told("clerk 8 7 0 0;");
                x.rate(kind, 0);
                b.due("trace() behind kind " + kind, x.trace(), bodies[kind]);
                x.rate(kind, 0);
                b.due("trace() behind kind " + kind + " twice", x.trace(), 2 * bodies[kind]);
            }
        });
        b.test(29, "RATE. NO: BAD", "what is refused adds nothing", () -> {
            NineHands x = Boundaries.usual();
            x.rate(6, 0);
            x.rate(-1, 0);
            x.rate(3, 3);
            x.rate(5, -1);
            b.due("trace()", x.trace(), 11);
        });
        b.test(29, "THE TRACE goes on, as behind undo(), back()", "it never goes back", () -> {
            NineHands x = Boundaries.usual();
            x.rate(5, 0);
            x.undo();
            b.due("trace() behind undo()", x.trace(), 100012);
            x.back(0);
            b.due("trace() behind back()", x.trace(), 100012);
            x.chancery();
            b.due("trace() behind chancery()", x.trace(), 100012);
            x.chancery();
            b.due("line(0, 2)", x.line(0, 2), NONE);
            b.due("trace() behind no text", x.trace(), 100012);
        });
        b.test(29, "THE TRACE goes on, as behind undo(), back()", "as far as calls can bring it", () -> {
            NineHands x = Check.told("clerk 0 0 0 0;");
            for (int k = 0; k < 500; k++) {
                x.rate(5, 0);
            }
            b.due("trace()", x.trace(), 50000500L);
        });
    }
}
