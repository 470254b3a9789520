// Boundary cases of promises 18 to 24: signed lines and what is learnt, copies and whence they came.
public final class HabitBoundaryTests {
    private static final int BAD = -1, FULL = -3, NONE = -9;
    private static final int LOW = Integer.MIN_VALUE, HIGH = Integer.MAX_VALUE;
    private static final Boundaries b = new Boundaries("HabitBoundaryTests");

    public static void main(String[] args) {
        signedTooMuch();
        signedWrong();
        learntOfNothing();
        learntLeans();
        learntMarks();
        learntNone();
        forgotten();
        copiedTooMuch();
        cameOfNone();
        cameOfAlike();
        cameDeep();
        firstCopies();
        burnt();
        b.finish(18, 24);
    }

    private static NineHands withSigned(int signed) {
        NineHands x = new NineHands();
        for (int k = 0; k < signed; k++) {
            x.sign(5, 0, 6, 1);
        }
        return x;
    }

    private static void signedTooMuch() {
        String most = "SIGNED (8 at most)";
        b.test(18, most, "the eighth is signed yet, the ninth is not", () -> {
            b.due("sign(..), the first", withSigned(0).sign(0, 0, 0, 0), 1);
            b.due("sign(..), the eighth", withSigned(7).sign(0, 0, 0, 0), 8);
            b.unchanged("sign(..), the ninth", x -> x.sign(0, 0, 0, 0), FULL, () -> withSigned(8), Boundaries::full);
        });
        b.test(18, most, "what the ninth would tell is not learnt", () -> {
            NineHands x = withSigned(8);
            x.sign(5, 0, 5, 0);
            b.due("learnt(0)", x.learnt(0), 5);
        });
        b.test(18, most, "the eighth counts for what is learnt", () -> {
            NineHands x = withSigned(7);
            x.sign(5, 0, 5, 1);
            b.due("learnt(0)", x.learnt(0), NONE);
        });
        b.test(18, "the first of these: BAD", "no line, and eight are signed", () -> {
            b.unchanged("sign(10, 0, 0, 0)", x -> x.sign(10, 0, 0, 0), BAD, () -> withSigned(8));
            b.unchanged("sign(0, 8, 0, 0)", x -> x.sign(0, 8, 0, 0), BAD, () -> withSigned(8));
            b.unchanged("sign(0, 0, -1, 0)", x -> x.sign(0, 0, -1, 0), BAD, () -> withSigned(8));
            b.unchanged("sign(0, 0, 0, -1)", x -> x.sign(0, 0, 0, -1), BAD, () -> withSigned(8));
        });
    }

    private static void signedWrong() {
        b.test(18, "A LINE has a TONE (0 ..", "-1, 10 and farther, ahead and behind", () -> {
            int[] tones = {-1, 10, LOW, HIGH};
            for (int tone : tones) {
                b.bad("sign(" + tone + ", 0, 0, 0)", x -> x.sign(tone, 0, 0, 0));
                b.bad("sign(0, 0, " + tone + ", 0)", x -> x.sign(0, 0, tone, 0));
            }
        });
        b.test(18, "MARKS (0 .. 7, bits)", "-1, 8 and farther, ahead and behind", () -> {
            int[] rows = {-1, 8, LOW, HIGH};
            for (int marks : rows) {
                b.bad("sign(0, " + marks + ", 0, 0)", x -> x.sign(0, marks, 0, 0));
                b.bad("sign(0, 0, 0, " + marks + ")", x -> x.sign(0, 0, 0, marks));
            }
        });
        b.test(18, "SIGNED: how much there is", "the least and the most of all four numbers", () -> {
            b.due("sign(0, 0, 9, 7)", new NineHands().sign(0, 0, 9, 7), 1);
            b.due("sign(9, 7, 0, 0)", new NineHands().sign(9, 7, 0, 0), 1);
        });
    }

    private static void learns(NineHands x, int... want) {
        for (int what = 0; what < 6; what++) {
            b.due("learnt(" + what + ")", x.learnt(what), want[what]);
        }
    }

    private static NineHands signedRow(int... lines) {
        NineHands x = new NineHands();
        for (int k = 0; k + 3 < lines.length; k += 4) {
            x.sign(lines[k], lines[k + 1], lines[k + 2], lines[k + 3]);
        }
        return x;
    }

    private static void learntOfNothing() {
        b.test(19, "0, 1 LEAN, 2 must SET, 3 must DROP, 4 may SET, 5 may DROP; NONE", "nothing signed: all may be",
            () -> learns(new NineHands(), 0, 8, 0, 0, 7, 7));
        b.test(19, "0, 1 LEAN, 2 must SET, 3 must DROP, 4 may SET, 5 may DROP; NONE", "what -1, 6 and farther", () -> {
            int[] whats = {-1, 6, LOW, HIGH};
            for (int what : whats) {
                b.bad("learnt(" + what + ")", x -> x.learnt(what));
            }
        });
        b.test(19, "0, 1 LEAN, 2 must SET, 3 must DROP, 4 may SET, 5 may DROP; NONE", "it changes nothing",
            () -> b.unchanged("learnt(0)", x -> x.learnt(0), 5, Boundaries::usual, Boundaries::full));
    }

    private static void learntLeans() {
        String leans = "the least, the greatest LEAN by which all are so";
        b.test(19, leans, "every tone behind every tone", () -> {
            for (int from = 0; from <= 9; from++) {
                for (int to = 0; to <= 9; to++) {
                    NineHands x = signedRow(from, 0, to, 0);
                    int lean = to - from + 4;
                    boolean none = lean < 0 || lean > 8;
                    b.due("learnt(0) of " + from + " " + to, x.learnt(0), none ? NONE : to == 0 ? 0 : lean);
                    b.due("learnt(1) of " + from + " " + to, x.learnt(1), none ? NONE : to == 9 ? 8 : lean);
                }
            }
        });
        b.test(19, leans, "both ends of the tones: one lean alone", () -> {
            learns(signedRow(0, 0, 0, 0, 9, 0, 9, 0), 4, 4, 0, 0, 0, 7);
            learns(signedRow(9, 0, 9, 0), 4, 8, 0, 0, 0, 7);
            learns(signedRow(0, 0, 0, 0), 0, 4, 0, 0, 0, 7);
        });
        b.test(19, leans, "eight signed lines, each of them a little nearer", () -> {
            NineHands x = new NineHands();
            for (int k = 0; k < 4; k++) {
                x.sign(9 - k, 0, 9, 0);
                b.due("learnt(0)", x.learnt(0), 4 + k);
                b.due("learnt(1)", x.learnt(1), 8);
            }
            x.sign(5, 0, 9, 0);
            b.due("learnt(0)", x.learnt(0), 8);
            x.sign(4, 0, 9, 0);
            b.due("learnt(0), more than the most", x.learnt(0), NONE);
        });
    }

    private static void learntMarks() {
        String marks = "MARKS that he must SET, must DROP, may SET, may DROP";
        b.test(19, marks, "one mark: comes, goes, stays there, stays away", () -> {
            for (int mark = 1; mark <= 4; mark *= 2) {
                int others = 7 - mark;
                // The others stay there: they may be set.
                learns(signedRow(5, others, 5, 7), 4, 4, mark, 0, 7, 0);
                learns(signedRow(5, 7, 5, others), 4, 4, 0, mark, others, mark);
                learns(signedRow(5, mark, 5, mark), 4, 4, 0, 0, mark, others);
                learns(signedRow(5, others, 5, others), 4, 4, 0, 0, others, mark);
            }
        });
        b.test(19, marks, "a mark that stays there once, stays away once: neither", () -> {
            learns(signedRow(5, 0, 5, 0, 5, 7, 5, 7), 4, 4, 0, 0, 0, 0);
        });
        b.test(19, marks, "a mark that comes once must be set, though it stays there once", () -> {
            learns(signedRow(5, 1, 5, 1, 5, 0, 5, 1), 4, 4, 1, 0, 1, 6);
            learns(signedRow(5, 0, 5, 0, 5, 1, 5, 0), 4, 4, 0, 1, 0, 7);
        });
        b.test(19, "(bits; all by the same SETS and DROPS; none of both)", "all three must be set, or dropped", () -> {
            learns(signedRow(5, 0, 5, 7), 4, 4, 7, 0, 7, 0);
            learns(signedRow(5, 7, 5, 0), 4, 4, 0, 7, 0, 7);
            learns(signedRow(5, 5, 5, 2), 4, 4, 2, 5, 2, 5);
        });
    }

    private static void learntNone() {
        String none = "NONE, all of them: none fit (no LEAN, or no MARKS)";
        b.test(19, none, "no lean, marks that fit", () -> {
            learns(signedRow(0, 0, 5, 0), NONE, NONE, NONE, NONE, NONE, NONE);
            learns(signedRow(5, 0, 0, 0), NONE, NONE, NONE, NONE, NONE, NONE);
            learns(signedRow(3, 0, 4, 0, 3, 0, 5, 0), NONE, NONE, NONE, NONE, NONE, NONE);
        });
        b.test(19, none, "no marks, a lean that fits", () -> {
            learns(signedRow(5, 0, 5, 1, 5, 1, 5, 0), NONE, NONE, NONE, NONE, NONE, NONE);
            learns(signedRow(5, 0, 5, 4, 5, 0, 5, 0), NONE, NONE, NONE, NONE, NONE, NONE);
            learns(signedRow(5, 2, 5, 0, 5, 2, 5, 2), NONE, NONE, NONE, NONE, NONE, NONE);
            learns(signedRow(5, 0, 5, 7, 5, 7, 5, 3), NONE, NONE, NONE, NONE, NONE, NONE);
        });
        b.test(19, none, "neither", () -> learns(signedRow(0, 0, 5, 1, 0, 0, 5, 0), NONE, NONE, NONE, NONE, NONE, NONE));
        b.test(19, "the first of these: BAD", "none fit, and what is not as told", () -> {
            b.due("learnt(6)", signedRow(0, 0, 5, 0).learnt(6), BAD);
            b.due("learnt(-1)", signedRow(0, 0, 5, 0).learnt(-1), BAD);
        });
    }

    private static void forgotten() {
        String forgot = "Nothing is SIGNED: how much there was";
        b.test(20, forgot, "nothing was signed", () -> {
            b.unchanged("forget()", x -> x.forget(), 0, Boundaries::bare);
        });
        b.test(20, forgot, "eight were: then eight can be signed anew", () -> {
            NineHands x = withSigned(8);
            b.due("forget()", x.forget(), 8);
            b.due("forget()", x.forget(), 0);
            learns(x, 0, 8, 0, 0, 7, 7);
            for (int k = 1; k <= 8; k++) {
                b.due("sign(3, 0, 3, 0)", x.sign(3, 0, 3, 0), k);
            }
            b.due("sign(3, 0, 3, 0)", x.sign(3, 0, 3, 0), FULL);
            learns(x, 4, 4, 0, 0, 0, 7);
        });
        b.test(20, forgot, "what was forgotten does not come back with fewer lines", () -> {
            NineHands x = withSigned(3);
            x.forget();
            x.sign(5, 0, 5, 0);
            learns(x, 4, 4, 0, 0, 0, 7);
        });
    }

    private static NineHands withCopies(int... slips) {
        NineHands x = new NineHands();
        for (int one : slips) {
            x.copy(one);
        }
        return x;
    }

    private static void copiedTooMuch() {
        b.test(21, "COPIES 0 .. (8 at most)", "the eighth is copied yet, the ninth is not", () -> {
            b.due("copy(1), the first", withCopies().copy(1), 0);
            b.due("copy(1), the eighth", withCopies(1, 2, 3, 4, 5, 6, 7).copy(1), 7);
            b.unchanged("copy(1), the ninth", x -> x.copy(1), FULL, () -> withCopies(1, 2, 3, 4, 5, 6, 7, 8),
                Boundaries::full);
        });
        b.test(21, "SLIPS (0 .. 255, bits)", "0 and 255", () -> {
            NineHands x = withCopies(0, 255);
            b.due("came(0, 0)", x.came(0, 0), 0);
            b.due("came(1, 0)", x.came(1, 0), 255);
        });
        b.test(21, "SLIPS (0 .. 255, bits)", "-1, 256 and farther", () -> {
            int[] rows = {-1, 256, LOW, HIGH};
            for (int slips : rows) {
                b.bad("copy(" + slips + ")", x -> x.copy(slips));
            }
        });
        b.test(21, "the first of these: BAD", "no slips, and there are eight copies", () -> {
            b.unchanged("copy(256)", x -> x.copy(256), BAD, () -> withCopies(1, 2, 3, 4, 5, 6, 7, 8));
            b.unchanged("copy(-1)", x -> x.copy(-1), BAD, () -> withCopies(1, 2, 3, 4, 5, 6, 7, 8));
        });
    }

    private static void came(NineHands x, int k, int of, int depth) {
        b.due("came(" + k + ", 1)", x.came(k, 1), of);
        b.due("came(" + k + ", 2)", x.came(k, 2), depth);
    }

    private static void cameOfNone() {
        b.test(22, "there is no such thing", "no copies, below the first, behind the last", () -> {
            int[] numbers = {-1, 8, LOW, HIGH};
            for (int k : numbers) {
                for (int what = 0; what < 3; what++) {
                    int asked = what;
                    b.bad("came(" + k + ", " + what + ")", x -> x.came(k, asked));
                }
            }
            b.unchanged("came(0, 1)", x -> x.came(0, 1), BAD, Boundaries::bare);
            b.unchanged("came(3, 2)", x -> x.came(3, 2), BAD, Boundaries::usual);
        });
        b.test(22, "Of a COPY: 0 its SLIPS, 1 of which it CAME (NONE), 2 its DEPTH", "what -1, 3 and farther", () -> {
            int[] whats = {-1, 3, LOW, HIGH};
            for (int what : whats) {
                b.bad("came(0, " + what + ")", x -> x.came(0, what));
            }
        });
        b.test(22, "of several the least number; NONE", "one copy alone, copies with nothing in common", () -> {
            came(withCopies(255), 0, NONE, 0);
            came(withCopies(0), 0, NONE, 0);
            NineHands x = withCopies(1, 2, 4, 8, 16, 32, 64, 128);
            for (int k = 0; k < 8; k++) {
                came(x, k, NONE, 0);
            }
        });
        b.test(22, "that has no SLIP that it has not", "one slip of eight is too much", () -> {
            for (int mark = 0; mark < 8; mark++) {
                came(withCopies(255, 255 - (1 << mark)), 1, NONE, 0);
                came(withCopies(255, 255 - (1 << mark)), 0, 1, 1);
            }
        });
        b.test(22, "that has no SLIP that it has not", "a copy without slips can be ahead of each", () -> {
            NineHands x = withCopies(128, 0, 1);
            came(x, 0, 1, 1);
            came(x, 1, NONE, 0);
            came(x, 2, 1, 1);
        });
    }

    private static void cameOfAlike() {
        String alike = "(of one with the same SLIPS, if that has a lower number)";
        b.test(22, alike, "two, the lower came of none, the higher of the lower", () -> {
            came(withCopies(9, 9), 0, NONE, 0);
            came(withCopies(9, 9), 1, 0, 1);
            came(withCopies(0, 0), 0, NONE, 0);
            came(withCopies(0, 0), 1, 0, 1);
        });
        b.test(22, alike, "eight: all others came of the first", () -> {
            NineHands x = withCopies(255, 255, 255, 255, 255, 255, 255, 255);
            came(x, 0, NONE, 0);
            for (int k = 1; k < 8; k++) {
                came(x, k, 0, 1);
            }
        });
        b.test(22, alike, "of the same slips ahead of fewer, but the lower of both of fewer", () -> {
            NineHands x = withCopies(1, 3, 3);
            came(x, 1, 0, 1);
            came(x, 2, 1, 2);
            NineHands y = withCopies(3, 3, 1);
            came(y, 0, 2, 1);
            came(y, 1, 0, 2);
        });
        b.test(22, "CAME: of these that with the most SLIPS, of several the least number", "two with as many slips", () -> {
            came(withCopies(7, 1, 3, 5), 0, 2, 2);
            came(withCopies(7, 1, 5, 3), 0, 2, 2);
            came(withCopies(1, 2, 3), 2, 0, 1);
            // The most slips, not the greatest number of them as a number.
            came(withCopies(128, 7, 135), 2, 1, 1);
        });
    }

    private static void cameDeep() {
        b.test(22, "DEPTH: how many ahead of it, one of another", "0 to 7, the deepest that there can be", () -> {
            NineHands x = withCopies(1, 3, 7, 15, 31, 63, 127, 255);
            NineHands y = withCopies(255, 127, 63, 31, 15, 7, 3, 1);
            for (int k = 0; k < 8; k++) {
                came(x, k, k == 0 ? NONE : k - 1, k);
                came(y, k, k == 7 ? NONE : k + 1, 7 - k);
            }
        });
        b.test(22, "DEPTH: how many ahead of it, one of another", "a later copy comes between", () -> {
            NineHands x = withCopies(1, 7);
            came(x, 1, 0, 1);
            x.copy(3);
            came(x, 1, 2, 2);
        });
    }

    private static void firstCopies() {
        String of = "FIRSTS: COPIES (bits) that came of none";
        b.test(23, of, "no copies", () -> b.unchanged("firsts()", x -> x.firsts(), 0, Boundaries::bare));
        b.test(23, of, "all eight, the last of eight alone, the first of eight alone", () -> {
            b.due("firsts()", withCopies(1, 2, 4, 8, 16, 32, 64, 128).firsts(), 255);
            b.due("firsts()", withCopies(1, 2, 4, 8, 16, 32, 64, 0).firsts(), 128);
            b.due("firsts()", withCopies(5, 5, 5, 5, 5, 5, 5, 5).firsts(), 1);
        });
        b.test(23, of, "one, and it changes nothing", () -> {
            b.unchanged("firsts()", x -> x.firsts(), 1, () -> withCopies(255));
            b.unchanged("firsts()", x -> x.firsts(), 6, Boundaries::usual);
        });
    }

    private static void burnt() {
        String none = "No COPIES: how many there were";
        b.test(24, none, "there were none", () -> b.unchanged("burn()", x -> x.burn(), 0, Boundaries::bare));
        b.test(24, none, "there were eight: then eight can be made anew, from number 0", () -> {
            NineHands x = withCopies(1, 2, 3, 4, 5, 6, 7, 8);
            b.due("burn()", x.burn(), 8);
            b.due("burn()", x.burn(), 0);
            b.due("came(0, 0)", x.came(0, 0), BAD);
            b.due("firsts()", x.firsts(), 0);
            for (int k = 0; k < 8; k++) {
                b.due("copy(9)", x.copy(9), k);
            }
            b.due("copy(9)", x.copy(9), FULL);
        });
        b.test(24, none, "no new copy comes of a burnt one", () -> {
            NineHands x = withCopies(0, 1, 3);
            x.burn();
            x.copy(7);
            came(x, 0, NONE, 0);
            b.due("firsts()", x.firsts(), 1);
        });
    }
}
