// Boundary cases of promises 13 to 17: who wrote a line, rows, odds, orders, drift.
public final class WriterBoundaryTests {
    private static final int BAD = -1, STATE = -2, NONE = -9, NOT_SO_MANY = -5;
    private static final int LOW = Integer.MIN_VALUE, HIGH = Integer.MAX_VALUE;
    private static final Boundaries b = new Boundaries("WriterBoundaryTests");

    public static void main(String[] args) {
        whoOfNoLine();
        whoByWays();
        whoOfManyAndNone();
        rowsOfAll();
        oddsRefused();
        oddsOfNobody();
        oddsAsFractions();
        ordersOfNone();
        ordersRefused();
        ordersOfMany();
        ordersAtTheEnds();
        driftsOfNone();
        driftsRefused();
        driftsOfMany();
        nothingIsChanged();
        b.finish(13, 17);
    }

    // Clerks that differ in nothing but how much they keep to one up; behind the first line 5 there is a 6, a 6, a 9.
    private static NineHands keepers(int... keeps) {
        StringBuilder text = new StringBuilder();
        for (int one : keeps) {
            text.append("clerk5 0 0 ").append(one).append(";");
        }
        NineHands x = Check.told(text.toString());
        x.forge(6, 0);
        x.forge(6, 0);
        x.forge(9, 0);
        return x;
    }

    private static void whoOfNoLine() {
        b.test(13, "WHO of a LINE (1 and on)", "the first line, below it, behind the last", () -> {
            int[] numbers = {0, -1, 10, LOW, HIGH};
            for (int i : numbers) {
                b.bad("who(" + i + ", 0)", x -> x.who(i, 0));
                b.bad("who(" + i + ", 1)", x -> x.who(i, 1));
            }
            b.unchanged("who(1, 0)", x -> x.who(1, 0), BAD, Boundaries::bare);
            b.unchanged("who(4, 0)", x -> x.who(4, 0), BAD, Boundaries::usual);
        });
        b.test(13, "WHO of a LINE (1 and on)", "line 1, the last, the tenth of ten", () -> {
            b.due("who(1, 0)", keepers(10).who(1, 0), 1);
            b.due("who(3, 0)", keepers(10).who(3, 0), 0);
            b.due("who(9, 0)", Boundaries.full().who(9, 0) & 4, 4);
        });
        b.test(13, "WHO of a LINE, as bits (what = 0), LIKELIEST (1; NONE)", "what -1, 2 and farther", () -> {
            int[] whats = {-1, 2, LOW, HIGH};
            for (int what : whats) {
                b.bad("who(1, " + what + ")", x -> x.who(1, what));
            }
        });
        b.test(13, "WHO of a LINE (1 and on)", "the line is taken back", () -> {
            NineHands x = keepers(10);
            x.undo();
            b.due("who(3, 0)", x.who(3, 0), BAD);
            b.due("who(2, 0)", x.who(2, 0), 0);
        });
    }

    private static void whoByWays() {
        b.test(13, "CLERKS (bits) with WAYS above 0", "by habit: KEEPS 0 has no way, 1 has one", () -> {
            b.due("who(1, 0)", keepers(0, 1).who(1, 0), 2);
            b.due("who(1, 1)", keepers(0, 1).who(1, 1), 1);
        });
        b.test(13, "10 less KEEPS, if it is a COPY (added)", "a copy: KEEPS 10 has no way, 9 has one", () -> {
            b.due("who(2, 0)", keepers(10, 9).who(2, 0), 2);
            b.due("who(2, 1)", keepers(10, 9).who(2, 1), 1);
        });
        b.test(13, "10 less KEEPS, if it is a COPY (added)", "habit and copy are alike: ten ways, whatever he keeps", () -> {
            for (int keeps = 0; keeps <= 10; keeps++) {
                NineHands x = Check.told("clerk 4 0 0 " + keeps + ";clerk 8 0 0 " + keeps + ";letter 9 0;");
                x.forge(9, 0);
                b.due("who(1, 0) by " + keeps, x.who(1, 0), 3);
                b.due("odds(0, 1, 1) by " + keeps, x.odds(0, 1, 1), 2);
            }
        });
        b.test(13, "if HABIT makes just that", "the tone alone, the marks alone are not it", () -> {
            NineHands x = Check.told("clerk 5 1 0 10;");
            x.forge(6, 0);
            x.forge(6, 1);
            x.forge(7, 1);
            b.due("who(1, 0)", x.who(1, 0), 0);
            b.due("who(2, 0)", x.who(2, 0), 0);
            b.due("who(3, 0)", x.who(3, 0), 1);
        });
        b.test(13, "to a LINE from the one ahead", "the same tone with other marks is no copy", () -> {
            NineHands x = Check.told("clerk 5 0 0 0;");
            x.forge(5, 1);
            x.forge(4, 1);
            x.forge(4, 1);
            b.due("who(1, 0)", x.who(1, 0), 0);
            b.due("who(2, 0)", x.who(2, 0), 0);
            b.due("who(3, 0)", x.who(3, 0), 1);
        });
    }

    private static void whoOfManyAndNone() {
        b.test(13, "LIKELIEST: the one with most, of several the least number; NONE", "all six alike", () -> {
            NineHands x = keepers(5, 5, 5, 5, 5, 5);
            b.due("who(1, 0)", x.who(1, 0), 63);
            b.due("who(1, 1)", x.who(1, 1), 0);
        });
        b.test(13, "LIKELIEST: the one with most, of several the least number; NONE", "the last two are most, and alike", () -> {
            b.due("who(1, 1)", keepers(3, 8, 8).who(1, 1), 1);
            b.due("who(1, 1)", keepers(3, 7, 8).who(1, 1), 2);
            b.due("who(2, 1)", keepers(8, 3, 3).who(2, 1), 1);
        });
        b.test(13, "LIKELIEST: the one with most, of several the least number; NONE", "nobody can", () -> {
            b.due("who(3, 0)", keepers(5, 5).who(3, 0), 0);
            b.due("who(3, 1)", keepers(5, 5).who(3, 1), NONE);
        });
        b.test(13, "CLERKS (bits) with WAYS above 0", "there are no clerks", () -> {
            NineHands x = new NineHands();
            x.forge(5, 0);
            b.due("who(1, 0)", x.who(1, 0), 0);
            b.due("who(1, 1)", x.who(1, 1), NONE);
            b.due("who(1, 2)", x.who(1, 2), BAD);
        });
    }

    private static void rowsOfAll() {
        String rows = "how many rows of CLERKS, one a LINE, there are for all LINES";
        b.test(14, rows, "the first line alone: the one empty row", () -> {
            b.due("rows()", new NineHands().rows(), 1);
            b.due("rows()", Check.told("clerk 5 0 0 5;").rows(), 1);
        });
        b.test(14, rows, "no clerks, a line: none", () -> {
            NineHands x = new NineHands();
            x.forge(5, 0);
            b.due("rows()", x.rows(), 0);
        });
        b.test(14, rows, "nobody can have written the first, the middle, the last line: none", () -> {
            for (int at = 1; at <= 9; at++) {
                NineHands x = Check.told("clerk 4 0 0 5;");
                for (int i = 1; i <= 9; i++) {
                    x.forge(5, i < at ? 0 : 7);
                }
                b.due("rows() with line " + at + " by nobody", x.rows(), 0);
            }
        });
        b.test(14, rows, "six clerks for each of nine lines, the most", () -> {
            NineHands x = Check.told("clerk 4 0 0 5;".repeat(6));
            for (int i = 1; i <= 9; i++) {
                x.forge(5, 0);
            }
            b.due("rows()", x.rows(), 10077696);
            x.undo();
            b.due("rows() with one less", x.rows(), 1679616);
        });
        b.test(14, rows, "one clerk: one", () -> {
            NineHands x = Check.told("clerk 5 0 0 10;");
            for (int k = 0; k < 9; k++) {
                x.write(0);
            }
            b.due("rows()", x.rows(), 1);
        });
    }

    private static void oddsRefused() {
        b.test(15, "there is no such thing", "a clerk below the first, above the last, none yet", () -> {
            int[] numbers = {-1, 6, LOW, HIGH};
            for (int c : numbers) {
                b.bad("odds(" + c + ", 1, 0)", x -> x.odds(c, 1, 0));
            }
            b.unchanged("odds(3, 1, 0)", x -> x.odds(3, 1, 0), BAD, Boundaries::usual);
        });
        b.test(15, "there is no such thing", "the first line, below it, behind the last", () -> {
            int[] numbers = {0, -1, 10, LOW, HIGH};
            for (int i : numbers) {
                b.bad("odds(0, " + i + ", 0)", x -> x.odds(0, i, 0));
            }
            b.unchanged("odds(0, 4, 0)", x -> x.odds(0, 4, 0), BAD, Boundaries::usual);
        });
        b.test(15, "upper (what = 0), lower number (1), in least terms", "what -1, 2 and farther", () -> {
            int[] whats = {-1, 2, LOW, HIGH};
            for (int what : whats) {
                b.bad("odds(0, 1, " + what + ")", x -> x.odds(0, 1, what));
            }
        });
    }

    private static void oddsOfNobody() {
        b.test(15, "(STATE: nobody can)", "both numbers, every clerk", () -> {
            for (int c = 0; c < 3; c++) {
                int number = c;
                b.unchanged("odds(" + c + ", 3, 0)", x -> x.odds(number, 3, 0), STATE, () -> keepers(1, 5, 9));
                b.unchanged("odds(" + c + ", 3, 1)", x -> x.odds(number, 3, 1), STATE, () -> keepers(1, 5, 9));
            }
        });
        b.test(15, "(STATE: nobody can)", "another line by nobody does not matter", () -> {
            b.due("odds(0, 1, 0)", keepers(5).odds(0, 1, 0), 1);
            b.due("odds(0, 2, 0)", keepers(5).odds(0, 2, 0), 1);
        });
        b.test(15, "(STATE: nobody can)", "one who never copies, a copy", () -> {
            b.due("odds(0, 2, 0)", keepers(10, 10).odds(0, 2, 0), STATE);
            b.due("odds(0, 1, 0)", keepers(0, 0).odds(0, 1, 0), STATE);
        });
        b.test(15, "the first of these: BAD", "nobody can, and a number is not as told", () -> {
            b.due("odds(1, 3, 0)", keepers(5).odds(1, 3, 0), BAD);
            b.due("odds(-1, 3, 0)", keepers(5).odds(-1, 3, 0), BAD);
            b.due("odds(0, 4, 0)", keepers(5).odds(0, 4, 0), BAD);
            b.due("odds(0, 3, 2)", keepers(5).odds(0, 3, 2), BAD);
            b.due("odds(0, 3, -1)", keepers(5).odds(0, 3, -1), BAD);
        });
    }

    private static void fraction(NineHands x, int c, int i, int upper, int lower) {
        b.due("odds(" + c + ", " + i + ", 0)", x.odds(c, i, 0), upper);
        b.due("odds(" + c + ", " + i + ", 1)", x.odds(c, i, 1), lower);
    }

    private static void oddsAsFractions() {
        b.test(15, "in least terms", "he can't: 0 of 1", () -> {
            fraction(keepers(0, 7), 0, 1, 0, 1);
            fraction(keepers(10, 4), 0, 2, 0, 1);
        });
        b.test(15, "in least terms", "only he can: 1 of 1", () -> {
            fraction(keepers(0, 7), 1, 1, 1, 1);
            fraction(keepers(1), 0, 1, 1, 1);
        });
        b.test(15, "in least terms", "one way of all, and ways that have much in common", () -> {
            fraction(keepers(1, 9, 10, 10, 10, 10), 0, 1, 1, 50);
            fraction(keepers(1, 9, 10, 10, 10, 10), 1, 1, 9, 50);
            fraction(keepers(10, 10, 10, 10, 10, 10), 5, 1, 1, 6);
            fraction(keepers(4, 8), 0, 1, 1, 3);
            fraction(keepers(4, 8), 1, 1, 2, 3);
            fraction(keepers(6, 9, 6), 0, 1, 2, 7);
            fraction(keepers(10, 10, 10, 10, 10, 9), 5, 1, 9, 59);
            fraction(keepers(4, 8), 0, 2, 3, 4);
        });
    }

    private static void ordersOfNone() {
        String none = "clerks 0: none go on";
        b.test(16, none, "how far the last tone itself is", () -> {
            for (int tone = 0; tone <= 9; tone++) {
                b.due("order(0, " + tone + ", -1)", new NineHands().order(0, tone, -1), Math.abs(tone - 5));
            }
            b.due("order(0, 0, -1) of a usual one", Boundaries.usual().order(0, 0, -1), 9);
        });
        b.test(16, none, "there is no i-th", () -> {
            NineHands x = Boundaries.usual();
            b.due("order(0, 5, 0)", x.order(0, 5, 0), NOT_SO_MANY);
            b.due("order(0, 5, 1)", x.order(0, 5, 1), NOT_SO_MANY);
            b.due("order(0, 5, HIGH)", x.order(0, 5, HIGH), NOT_SO_MANY);
        });
        b.test(16, none, "behind the orders of many", () -> {
            NineHands x = Boundaries.full();
            x.order(63, 0, 5);
            b.due("order(0, 0, 0)", x.order(0, 0, 0), NOT_SO_MANY);
            b.due("order(4, 0, 0)", x.order(4, 0, 0), 2);
            b.due("order(4, 0, 1)", x.order(4, 0, 1), NOT_SO_MANY);
        });
    }

    private static void ordersRefused() {
        b.test(16, "BAD (bits of nobody, too)", "the bit above the last clerk's, alone and with others", () -> {
            b.unchanged("order(1, 5, -1)", x -> x.order(1, 5, -1), BAD, Boundaries::bare);
            b.unchanged("order(8, 5, -1)", x -> x.order(8, 5, -1), BAD, Boundaries::usual);
            b.unchanged("order(15, 5, -1)", x -> x.order(15, 5, -1), BAD, Boundaries::usual);
            b.unchanged("order(7, 5, -1)", x -> x.order(7, 5, -1), 3, Boundaries::usual);
            int[] bits = {-1, 64, 127, 1 << 30, LOW, LOW + 1, HIGH};
            for (int clerks : bits) {
                b.bad("order(" + clerks + ", 5, -1)", x -> x.order(clerks, 5, -1));
            }
        });
        b.test(16, "ORDER for a TONE t", "-1, 10 and farther", () -> {
            int[] tones = {-1, 10, LOW, HIGH};
            for (int tone : tones) {
                b.bad("order(0, " + tone + ", -1)", x -> x.order(0, tone, -1));
            }
        });
        b.test(16, "how far (i = -1), the i-th", "i below -1", () -> {
            b.bad("order(0, 5, -2)", x -> x.order(0, 5, -2));
            b.bad("order(0, 5, -5)", x -> x.order(0, 5, -5));
            b.bad("order(0, 5, LOW)", x -> x.order(0, 5, LOW));
        });
        b.test(16, "the first of these: BAD", "nobody's bits or no tone, and not so many either", () -> {
            b.bad("order(64, 5, 9)", x -> x.order(64, 5, 9));
            b.bad("order(0, 10, 9)", x -> x.order(0, 10, 9));
        });
    }

    private static void ordersOfMany() {
        b.test(16, "the i-th (-5: not so many)", "the last that there is, and one more", () -> {
            NineHands x = Boundaries.full();
            b.due("order(63, 5, 6)", x.order(63, 5, 6), NOT_SO_MANY);
            b.due("order(63, 5, HIGH)", x.order(63, 5, HIGH), NOT_SO_MANY);
            b.due("order(32, 5, 0)", x.order(32, 5, 0), 5);
            b.due("order(32, 5, 1)", x.order(32, 5, 1), NOT_SO_MANY);
            b.due("order(33, 5, 0) and (33, 5, 1) are 0 and 5", x.order(33, 5, 0) + x.order(33, 5, 1), 5);
        });
        b.test(16, "of several the first by numbers", "all orders are alike: by numbers", () -> {
            NineHands x = Check.told("clerk 4 0 0 0;".repeat(6));
            for (int i = 0; i < 6; i++) {
                b.due("order(63, 9, " + i + ")", x.order(63, 9, i), i);
            }
            b.due("order(42, 9, 0)", x.order(42, 9, 0), 1);
            b.due("order(42, 9, 1)", x.order(42, 9, 1), 3);
            b.due("order(42, 9, 2)", x.order(42, 9, 2), 5);
            b.due("order(42, 9, 3)", x.order(42, 9, 3), NOT_SO_MANY);
        });
        b.test(16, "of several the first by numbers", "only the last of all orders is the nearest", () -> {
            // 3 2 1 0: from 8 down 1, up 4 to the end, down 4, up 1: no other order comes to 6.
            NineHands x = Check.told("letter 8 0;clerk 5 0 0 0;clerk 0 0 0 0;clerk 8 0 0 0;clerk 3 0 0 0;");
            b.due("order(15, 6, -1)", x.order(15, 6, -1), 0);
            for (int i = 0; i < 4; i++) {
                b.due("order(15, 6, " + i + ")", x.order(15, 6, i), 3 - i);
            }
        });
        b.test(16, "of several the first by numbers", "six, of which many orders but not the first ones are nearest", () -> {
            NineHands x = Check.told("clerk5 0 0 0;".repeat(3) + "clerk0 0 0 0;".repeat(2) + "clerk8 0 0 0;");
            // It comes to 7 if both who sink go down to 0 first: then 3 up and 4 up, in any order.
            int[] want = {3, 4, 0, 1, 2, 5};
            b.due("order(63, 7, -1)", x.order(63, 7, -1), 0);
            for (int i = 0; i < 6; i++) {
                b.due("order(63, 7, " + i + ")", x.order(63, 7, i), want[i]);
            }
        });
        b.test(16, "each once, by HABIT", "how much they keep does not matter, and nothing is written", () -> {
            NineHands x = Check.told("clerk 6 0 0 0;clerk 6 0 0 10;");
            b.due("order(3, 9, -1)", x.order(3, 9, -1), 0);
            b.due("order(1, 7, -1)", x.order(1, 7, -1), 0);
            b.due("order(2, 7, -1)", x.order(2, 7, -1), 0);
            b.due("count(1)", x.count(1), 1);
            b.due("lot(1)", x.lot(1), 1);
        });
    }

    private static void ordersAtTheEnds() {
        b.test(16, "(below 0: 0, above 9: 9)", "who rises ahead of who sinks, and the other way round", () -> {
            NineHands x = Check.told("letter 9 0;clerk 8 0 0 0;clerk 0 0 0 0;");
            // 0 1: 9 5; 1 0: 5 9.
            b.due("order(3, 5, 0)", x.order(3, 5, 0), 0);
            b.due("order(3, 9, 0)", x.order(3, 9, 0), 1);
            b.due("order(3, 7, -1), alike", x.order(3, 7, -1), 2);
            b.due("order(3, 7, 0), alike", x.order(3, 7, 0), 0);
            NineHands y = Check.told("letter 0 0;clerk 8 0 0 0;clerk 0 0 0 0;");
            // 0 1: 4 0; 1 0: 0 4.
            b.due("order(3, 0, 0)", y.order(3, 0, 0), 0);
            b.due("order(3, 4, 0)", y.order(3, 4, 0), 1);
        });
        b.test(16, "go on behind the last LINE", "the letter is full, and one is taken back", () -> {
            NineHands x = Check.told("clerk 4 0 0 0;");
            for (int k = 0; k < 9; k++) {
                x.forge(k, 0);
            }
            b.due("order(1, 8, -1)", x.order(1, 8, -1), 0);
            x.undo();
            b.due("order(1, 8, -1)", x.order(1, 8, -1), 1);
        });
    }

    private static void driftsOfNone() {
        String none = "clerks 0: none go on (0)";
        b.test(17, none, "whatever the last tone is", () -> {
            b.unchanged("drift(0, -1)", x -> x.drift(0, -1), 0, Boundaries::bare, Boundaries::usual, Boundaries::full);
        });
        b.test(17, none, "there is no i-th", () -> {
            b.due("drift(0, 0)", Boundaries.usual().drift(0, 0), NOT_SO_MANY);
            b.due("drift(0, HIGH)", Boundaries.usual().drift(0, HIGH), NOT_SO_MANY);
        });
        b.test(17, none, "behind the orders of many", () -> {
            NineHands x = Boundaries.full();
            x.drift(63, 5);
            x.order(63, 0, 5);
            b.due("drift(0, -1)", x.drift(0, -1), 0);
            b.due("drift(0, 0)", x.drift(0, 0), NOT_SO_MANY);
        });
    }

    private static void driftsRefused() {
        b.test(17, "BAD (bits of nobody, too)", "the bit above the last clerk's, alone and with others", () -> {
            b.unchanged("drift(1, -1)", x -> x.drift(1, -1), BAD, Boundaries::bare);
            b.unchanged("drift(8, -1)", x -> x.drift(8, -1), BAD, Boundaries::usual);
            b.unchanged("drift(15, -1)", x -> x.drift(15, -1), BAD, Boundaries::usual);
            int[] bits = {-1, 64, 127, 1 << 30, LOW, LOW + 1, HIGH};
            for (int clerks : bits) {
                b.bad("drift(" + clerks + ", -1)", x -> x.drift(clerks, -1));
            }
        });
        b.test(17, "how far (i = -1), the i-th", "i below -1", () -> {
            b.bad("drift(0, -2)", x -> x.drift(0, -2));
            b.bad("drift(0, -5)", x -> x.drift(0, -5));
            b.bad("drift(0, LOW)", x -> x.drift(0, LOW));
        });
        b.test(17, "the first of these: BAD", "nobody's bits, and not so many either",
            () -> b.bad("drift(64, 9)", x -> x.drift(64, 9)));
    }

    private static void driftsOfMany() {
        b.test(17, "the i-th (-5: not so many)", "the last that there is, and one more", () -> {
            NineHands x = Check.told("clerk 4 0 0 0;".repeat(6));
            for (int i = 0; i < 6; i++) {
                b.due("drift(63, " + i + ")", x.drift(63, i), i);
            }
            b.due("drift(63, 6)", x.drift(63, 6), NOT_SO_MANY);
            b.due("drift(32, 0)", x.drift(32, 0), 5);
            b.due("drift(32, 1)", x.drift(32, 1), NOT_SO_MANY);
            b.due("drift(32, HIGH)", x.drift(32, HIGH), NOT_SO_MANY);
        });
        b.test(17, "the greatest way of any TONE in between (the last too)", "it is the last, it is the first of them", () -> {
            b.due("drift(3, -1), the last", Check.told("clerk 5 0 0 0;clerk 6 0 0 0;").drift(3, -1), 3);
            // 0 1: 7 6; 1 0: 4 6.
            NineHands x = Check.told("clerk 6 0 0 0;clerk 3 0 0 0;");
            b.due("drift(3, -1)", x.drift(3, -1), 1);
            b.due("drift(3, 0)", x.drift(3, 0), 1);
        });
        b.test(17, "from that of the last LINE", "at an end, where who goes on can't go farther", () -> {
            b.due("drift(1, -1) at 9", Check.told("letter 9 0;clerk 8 0 0 0;").drift(1, -1), 0);
            b.due("drift(1, -1) at 0", Check.told("letter 0 0;clerk 0 0 0 0;").drift(1, -1), 0);
            b.due("drift(1, -1) at 8", Check.told("letter 8 0;clerk 8 0 0 0;").drift(1, -1), 1);
            b.due("drift(1, -1) at 3", Check.told("letter 3 0;clerk 0 0 0 0;").drift(1, -1), 3);
        });
        b.test(17, "from that of the last LINE", "from end to end, the farthest", () -> {
            NineHands x = Check.told("letter 0 0;" + "clerk 8 0 0 0;".repeat(6));
            b.due("drift(63, -1)", x.drift(63, -1), 9);
            b.due("drift(63, 5)", x.drift(63, 5), 5);
            x.forge(9, 0);
            b.due("drift(63, -1)", x.drift(63, -1), 0);
        });
        b.test(17, "of several the first by numbers", "only the last of all orders drifts least", () -> {
            // 4 3 2 1 0: from 6 to 5, 8, 4, 8, 5.
            NineHands x = Check.told("letter6 0;clerk1 0 0 0;clerk8 0 0 0;clerk0 0 0 0;clerk7 0 0 0;clerk3 0 0 0;");
            b.due("drift(31, -1)", x.drift(31, -1), 2);
            for (int i = 0; i < 5; i++) {
                b.due("drift(31, " + i + ")", x.drift(31, i), 4 - i);
            }
        });
        b.test(17, "of several the first by numbers", "six, of which some orders but not the first ones drift least", () -> {
            // 4 5 3 0 2 1: from 3 to 3, 2, 5, 1, 5, 2.
            NineHands x = Check.told("letter3 0;clerk0 0 0 0;clerk1 0 0 0;clerk8 0 0 0;clerk7 0 0 0;clerk4 0 0 0;clerk3 0 0 0;");
            int[] want = {4, 5, 3, 0, 2, 1};
            b.due("drift(63, -1)", x.drift(63, -1), 2);
            for (int i = 0; i < 6; i++) {
                b.due("drift(63, " + i + ")", x.drift(63, i), want[i]);
            }
        });
        b.test(17, "of several the first by numbers", "a later one that is as good does not count", () -> {
            NineHands x = Check.told("clerk 6 0 0 0;clerk 2 0 0 0;clerk 4 0 0 0;");
            b.due("drift(7, -1)", x.drift(7, -1), 2);
            for (int i = 0; i < 3; i++) {
                b.due("drift(7, " + i + ")", x.drift(7, i), i);
            }
        });
    }

    private static void nothingIsChanged() {
        String none = "(Nothing is changed.)";
        b.test(13, none, "who() of a line", () -> {
            b.unchanged("who(1, 0)", x -> x.who(1, 0), 1, Boundaries::usual);
            b.unchanged("who(3, 1)", x -> x.who(3, 1), NONE, Boundaries::usual);
        });
        b.test(14, none, "rows()", () -> b.unchanged("rows()", x -> x.rows(), 0, Boundaries::usual));
        b.test(15, none, "odds() of a clerk", () -> b.unchanged("odds(0, 1, 1)", x -> x.odds(0, 1, 1), 1, Boundaries::usual));
        b.test(16, none, "order() of all", () -> b.unchanged("order(7, 0, 1)", x -> x.order(7, 0, 1), 1, Boundaries::usual));
        b.test(17, none, "drift() of all", () -> b.unchanged("drift(7, -1)", x -> x.drift(7, -1), 1, Boundaries::usual));
    }
}
