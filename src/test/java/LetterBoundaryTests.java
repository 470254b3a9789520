// Boundary cases of promises 8 to 12: writing, forging, taking back, the lot, where a letter turned.
public final class LetterBoundaryTests {
    private static final int BAD = -1, STATE = -2, FULL = -3, NONE = -9;
    private static final int LOW = Integer.MIN_VALUE, HIGH = Integer.MAX_VALUE;
    private static final Boundaries b = new Boundaries("LetterBoundaryTests");

    public static void main(String[] args) {
        writtenTooMuch();
        writtenByNobody();
        lotWraps();
        draws();
        writtenAtTheEnds();
        forged();
        undone();
        lots();
        turns();
        b.finish(8, 12);
    }

    // Clerks 0, 1 and 2 always keep to their habits: one up, one down, marks alone. So many lines are there.
    private static NineHands withLines(int lines) {
        NineHands x = Check.told("clerk 5 1 0 10;clerk 3 0 1 10;clerk 4 6 1 10;");
        for (int k = 1; k < lines; k++) {
            x.write(2);
        }
        return x;
    }

    private static NineHands withForged(int lines) {
        NineHands x = withLines(1);
        for (int k = 1; k < lines; k++) {
            x.forge(k % 10, k % 8);
        }
        return x;
    }

    private static void writtenTooMuch() {
        String full = "FULL: 9 are written";
        b.test(8, full, "the ninth is written yet, the tenth is not", () -> {
            NineHands x = withLines(9);
            b.due("write(0), the ninth", x.write(0), 76);
            b.due("count(1)", x.count(1), 10);
            b.due("write(0), the tenth", x.write(0), FULL);
        });
        b.test(8, full, "nothing changes, the lot neither", () -> {
            b.unchanged("write(0)", x -> x.write(0), FULL, () -> withLines(10), Boundaries::full);
            NineHands x = withLines(10);
            x.lot(-3);
            b.due("write(1)", x.write(1), FULL);
            b.due("lot(0)", x.lot(0), -3);
        });
        b.test(8, full, "forged lines are lines of the letter, too", () -> {
            b.unchanged("write(0)", x -> x.write(0), FULL, () -> withForged(10));
            b.due("write(0)", withForged(9).write(0), 11 + 8);
        });
        b.test(8, full, "one taken back: one more is written", () -> {
            NineHands x = withLines(10);
            x.undo();
            b.due("write(1)", x.write(1), 64);
            b.due("write(1)", x.write(1), FULL);
        });
        b.test(8, full, "a full image comes back, a short one comes back", () -> {
            NineHands x = withLines(9);
            x.keep(0);
            x.write(2);
            x.keep(1);
            b.due("back(0)", x.back(0), 9);
            b.due("write(0)", x.write(0), 76);
            b.due("back(1)", x.back(1), 10);
            b.due("write(0)", x.write(0), FULL);
        });
        b.test(8, "the first of these: BAD", "nobody, and the letter is full", () -> {
            b.unchanged("write(3)", x -> x.write(3), BAD, () -> withLines(10));
            b.unchanged("write(-1)", x -> x.write(-1), BAD, () -> withLines(10));
        });
    }

    private static void writtenByNobody() {
        b.test(8, "there is no such thing", "no clerk yet, below the first, above the last", () -> {
            b.unchanged("write(0)", x -> x.write(0), BAD, Boundaries::bare);
            b.unchanged("write(3)", x -> x.write(3), BAD, Boundaries::usual);
            int[] numbers = {-1, 6, LOW, HIGH};
            for (int c : numbers) {
                b.bad("write(" + c + ")", x -> x.write(c));
            }
        });
        b.test(8, "there is no such thing", "behind BAD the lot is as it was", () -> {
            NineHands x = withLines(1);
            b.due("write(3)", x.write(3), BAD);
            b.due("lot(0)", x.lot(0), 1);
        });
    }

    private static void goesOn(int from, int to) {
        NineHands x = withLines(1);
        x.lot(from);
        x.write(0);
        b.due("lot(0) behind a line, from " + from, x.lot(0), to);
    }

    private static void lotWraps() {
        String wrapped = "THE LOT goes on (times 1103515245 and 12345, wrapped";
        b.test(8, wrapped, "from 0, and from the first lot", () -> {
            goesOn(0, 12345);
            goesOn(1, 1103527590);
        });
        b.test(8, wrapped, "beyond the highest number, below the lowest", () -> {
            goesOn(2, -2087924461);
            goesOn(-1, -1103502900);
            goesOn(-2, 2087949151);
            goesOn(12345, -740551042);
        });
        b.test(8, wrapped, "from the highest and from the lowest number", () -> {
            goesOn(HIGH, 1043980748);
            goesOn(LOW, -2147471303);
        });
        b.test(8, wrapped, "nine lines in a row, by habit or not", () -> {
            int[] lots = {1103527590, -1770082073, 662824084, -999580867, -112468174, -1778682749, -639453696,
                -1661227463, -1084965762};
            NineHands x = Check.told("clerk 5 0 0 10;clerk 5 0 0 0;");
            for (int k = 0; k < 9; k++) {
                x.write(k % 2);
                int lot = x.lot(0);
                b.due("the lot behind line " + (k + 1), lot, lots[k]);
                x.lot(lot);
            }
        });
    }

    // From that lot the draw is as told: who keeps just so much copies, who keeps one more does not.
    private static void draw(int lot, int draw) {
        for (int keeps = 0; keeps <= 10; keeps++) {
            NineHands x = Check.told("clerk 5 1 0 " + keeps + ";");
            x.lot(lot);
            b.due("write(0) from lot " + lot + " by one who keeps " + keeps, x.write(0), draw < keeps ? 16 : 5);
        }
    }

    private static void draws() {
        b.test(8, "by HABIT, if DRAW is less than how much he KEEPS", "every draw, from a lot that is above 0 then", () -> {
            int[] lots = {0, 12, 9, 24, 8, 5, 20, 4, 1, 16};
            for (int draw = 0; draw < 10; draw++) {
                draw(lots[draw], draw);
            }
        });
        b.test(8, "its upper 16 bits, as a number from 0 on", "every draw, from a lot that is below 0 then", () -> {
            int[] lots = {26, 10, 7, 37, 6, 3, 2, 30, 14, 11};
            for (int draw = 0; draw < 10; draw++) {
                draw(lots[draw], draw);
            }
            draw(LOW, 8);
        });
        b.test(8, "KEEPS to his habit so many in 10 (0 .. 10)", "0 never does, 10 always", () -> {
            NineHands x = Check.told("clerk 5 1 0 0;clerk 5 1 0 10;");
            for (int lot = -50; lot < 50; lot++) {
                x.lot(lot);
                b.due("write(0) from lot " + lot, x.write(0), 5);
                x.undo();
                b.due("write(1) from lot " + lot, x.write(1), 16);
                x.undo();
            }
        });
    }

    private static void writtenAtTheEnds() {
        b.test(8, "(below 0: 0, above 9: 9)", "a line at an end stays there", () -> {
            NineHands x = Check.told("clerk 8 0 0 10;clerk 0 0 0 10;letter 6 0;");
            b.due("write(0)", x.write(0), 9);
            b.due("write(0)", x.write(0), 9);
            b.due("write(1)", x.write(1), 5);
            b.due("write(1)", x.write(1), 1);
            b.due("write(1)", x.write(1), 0);
            b.due("write(1)", x.write(1), 0);
            b.due("write(0)", x.write(0), 4);
        });
    }

    private static void forged() {
        b.test(9, "(by nobody)", "the line has no writer, and the lot stays", () -> {
            NineHands x = withLines(1);
            b.due("forge(0, 0)", x.forge(0, 0), 2);
            b.due("line(1, 2)", x.line(1, 2), NONE);
            b.due("lot(0)", x.lot(0), 1);
        });
        b.test(9, "A LINE may be FORGED, too: any TONE, any MARKS", "the least and the most of both", () -> {
            NineHands x = new NineHands();
            b.due("forge(0, 7)", x.forge(0, 7), 2);
            b.due("forge(9, 0)", x.forge(9, 0), 3);
            b.due("line(1, 0)", x.line(1, 0), 0);
            b.due("line(1, 1)", x.line(1, 1), 7);
            b.due("line(2, 0)", x.line(2, 0), 9);
            b.due("line(2, 1)", x.line(2, 1), 0);
        });
        b.test(9, "A LINE has a TONE (0 ..", "-1, 10 and farther", () -> {
            int[] tones = {-1, 10, LOW, HIGH};
            for (int tone : tones) {
                b.bad("forge(" + tone + ", 0)", x -> x.forge(tone, 0));
            }
        });
        b.test(9, "MARKS (0 .. 7, bits)", "-1, 8 and farther", () -> {
            int[] rows = {-1, 8, LOW, HIGH};
            for (int marks : rows) {
                b.bad("forge(0, " + marks + ")", x -> x.forge(0, marks));
            }
        });
        b.test(9, "then one by each who writes (9 at most)", "the ninth is forged yet, the tenth is not", () -> {
            NineHands x = withForged(9);
            b.due("forge(1, 1), the ninth", x.forge(1, 1), 10);
            b.due("forge(1, 1), the tenth", x.forge(1, 1), FULL);
            b.unchanged("forge(1, 1)", y -> y.forge(1, 1), FULL, () -> withForged(10), () -> withLines(10), Boundaries::full);
        });
        b.test(9, "the first of these: BAD", "no tone or no marks, and the letter is full", () -> {
            b.unchanged("forge(10, 0)", x -> x.forge(10, 0), BAD, () -> withForged(10));
            b.unchanged("forge(0, 8)", x -> x.forge(0, 8), BAD, () -> withForged(10));
        });
        b.test(9, "A LINE is FORGED: how many LINES there are", "one was taken back ahead of it", () -> {
            NineHands x = withForged(10);
            x.undo();
            b.due("forge(2, 3)", x.forge(2, 3), 10);
            b.due("line(9, 0)", x.line(9, 0), 2);
        });
    }

    private static void undone() {
        String alone = "STATE: the first one alone";
        b.test(10, alone, "a new object, one that was just told", () -> {
            b.unchanged("undo()", x -> x.undo(), STATE, Boundaries::bare, () -> withLines(1));
        });
        b.test(10, alone, "two lines: one is left, then none can be taken back", () -> {
            NineHands x = withLines(2);
            b.due("undo()", x.undo(), 1);
            b.due("undo()", x.undo(), STATE);
            b.due("line(0, 0)", x.line(0, 0), 5);
        });
        b.test(10, alone, "a full letter is taken back to the first line", () -> {
            NineHands x = Boundaries.full();
            for (int left = 9; left > 0; left--) {
                b.due("undo()", x.undo(), left);
            }
            b.due("undo()", x.undo(), STATE);
            b.due("line(0, 0)", x.line(0, 0), 6);
            b.due("line(0, 1)", x.line(0, 1), 5);
        });
        b.test(10, alone, "an image of the first line alone came back", () -> {
            NineHands x = withLines(1);
            x.keep(1);
            x.write(0);
            x.back(1);
            b.due("undo()", x.undo(), STATE);
        });
        b.test(10, "nothing can be UNDONE", "read anew", () -> {
            NineHands x = Boundaries.usual();
            x.chancery();
            b.due("undo()", x.undo(), STATE);
        });
        b.test(10, "UNDONE: the last LINE (THE LOT stays)", "written, then forged", () -> {
            NineHands x = withLines(1);
            x.write(0);
            b.due("undo() of a written line", x.undo(), 1);
            b.due("lot(1)", x.lot(1), 1103527590);
            x.forge(1, 1);
            b.due("undo() of a forged line", x.undo(), 1);
            b.due("lot(1)", x.lot(1), 1);
        });
    }

    private static void lots() {
        b.test(11, "THE LOT becomes v: what it was", "the lowest, the highest, 0, below 0", () -> {
            NineHands x = new NineHands();
            int[] lots = {LOW, HIGH, 0, -1, -1000000, 1};
            int was = 1;
            for (int lot : lots) {
                b.due("lot(" + lot + ")", x.lot(lot), was);
                was = lot;
            }
        });
        b.test(11, "THE LOT becomes v: what it was", "the same again",
            () -> b.unchanged("lot(1)", x -> x.lot(1), 1, Boundaries::bare));
    }

    private static NineHands ofTones(int... tones) {
        NineHands x = Check.told("letter " + tones[0] + " 0;");
        for (int k = 1; k < tones.length; k++) {
            x.forge(tones[k], 0);
        }
        return x;
    }

    private static void turns() {
        String ends = "(TONES 0 .. 4 are cold, 5 .. 9 warm: cold, if that is warm; else warm)";
        b.test(12, ends, "every first tone with every second one", () -> {
            for (int first = 0; first <= 9; first++) {
                for (int second = 0; second <= 9; second++) {
                    int want = (first <= 4) == (second <= 4) ? NONE : 1;
                    b.due("turned() of " + first + " " + second, ofTones(first, second).turned(), want);
                }
            }
        });
        b.test(12, "the first LINE (1 and on)", "the first line alone", () -> {
            b.due("turned()", new NineHands().turned(), NONE);
            b.due("turned() of 4", ofTones(4).turned(), NONE);
            b.due("turned() of 0", ofTones(0).turned(), NONE);
        });
        b.test(12, "the first LINE (1 and on)", "the first of several, and it turns back", () -> {
            b.due("turned()", ofTones(5, 5, 4, 5, 4).turned(), 2);
            b.due("turned()", ofTones(4, 0, 4, 5, 0, 9).turned(), 3);
        });
        b.test(12, "the first LINE (1 and on)", "the last of a full letter, or none of it", () -> {
            b.due("turned()", ofTones(9, 8, 7, 6, 5, 5, 6, 7, 8, 0).turned(), 9);
            b.due("turned()", ofTones(9, 8, 7, 6, 5, 5, 6, 7, 8, 9).turned(), NONE);
            b.due("turned()", ofTones(0, 1, 2, 3, 4, 4, 3, 2, 1, 5).turned(), 9);
            b.due("turned()", ofTones(0, 1, 2, 3, 4, 4, 3, 2, 1, 0).turned(), NONE);
        });
        b.test(12, "TURNED; NONE", "the line that turned is taken back", () -> {
            NineHands x = ofTones(5, 9, 0);
            b.due("turned()", x.turned(), 2);
            x.undo();
            b.due("turned()", x.turned(), NONE);
        });
        b.test(12, "TURNED; NONE", "nothing is changed", () -> {
            b.unchanged("turned()", x -> x.turned(), NONE, Boundaries::bare);
            b.unchanged("turned()", x -> x.turned(), 3, Boundaries::usual);
        });
    }
}
