// Boundary cases of promises 1 to 7: a new object, the text, clerks and lines.
public final class ChanceryBoundaryTests {
    private static final int BAD = -1, STATE = -2, FULL = -3, NONE = -9, NO = -1000000;
    private static final int LOW = Integer.MIN_VALUE, HIGH = Integer.MAX_VALUE;
    private static final Boundaries b = new Boundaries("ChanceryBoundaryTests");

    public static void main(String[] args) {
        newObject();
        objectsAndCalls();
        typedBytes();
        typedTooMuch();
        cleared();
        itemsAndBlanks();
        mostThatNumbersMayBe();
        repeatedItems();
        bytesOfNoToken();
        wordsOfNone();
        numbersOfNone();
        endedTooEarly();
        firstFault();
        refusedText();
        readAnew();
        clerks();
        lines();
        madeLines();
        b.finish(1, 7);
    }

    private static void newObject() {
        b.test(1, "no CLERKS, a first LINE", "nothing but the first line is there", () -> {
            NineHands x = new NineHands();
            int[] counts = {0, 1, 0, 0, 0};
            for (int what = 0; what < 5; what++) {
                b.due("count(" + what + ")", x.count(what), counts[what]);
            }
            b.due("clerk(0, 0)", x.clerk(0, 0), BAD);
            b.due("line(1, 0)", x.line(1, 0), BAD);
            b.due("clear()", x.clear(), 0);
            b.due("forget()", x.forget(), 0);
            b.due("burn()", x.burn(), 0);
            b.due("came(0, 0)", x.came(0, 0), BAD);
            b.due("rate(0, 0)", x.rate(0, 0), NO);
        });
        b.test(1, "(TONE 5, no MARKS, if it is not told)", "the first line of a new object", () -> {
            NineHands x = new NineHands();
            b.due("line(0, 0)", x.line(0, 0), 5);
            b.due("line(0, 1)", x.line(0, 1), 0);
            b.due("line(0, 2)", x.line(0, 2), NONE);
        });
        b.test(1, "THE LOT (1 at first)", "the lot of a new object",
            () -> b.due("lot(1)", new NineHands().lot(1), 1));
        b.test(1, "THE TRACE, 0 at first", "the trace of a new object",
            () -> b.due("trace()", new NineHands().trace(), 0));
        b.test(1, "STATE: none was kept", "a new object keeps no image", () -> {
            b.due("back(0)", new NineHands().back(0), STATE);
            b.due("back(1)", new NineHands().back(1), STATE);
        });
    }

    private static void objectsAndCalls() {
        b.test(1, "A new object", "nothing of another object is in it", () -> {
            NineHands other = Boundaries.full();
            b.due("count(1) of the other", other.count(1), 10);
            NineHands x = new NineHands();
            b.due("count(0)", x.count(0), 0);
            b.due("count(1)", x.count(1), 1);
            b.due("lot(1)", x.lot(1), 1);
            b.due("trace()", x.trace(), 0);
            b.due("back(0)", x.back(0), STATE);
            x.forge(1, 1);
            b.due("line(1, 0) of the other", other.line(1, 0), 7);
        });
        b.test(1, "at most 512 calls after it has been made", "the 512th call is answered yet", () -> {
            NineHands x = new NineHands();
            for (int k = 0; k < 511; k++) {
                x.lot(k);
            }
            b.due("lot(0), the 512th call", x.lot(0), 510);
        });
        b.test(1, "at most 512 calls after it has been made", "what the 512th call answers counts all 511 ahead", () -> {
            NineHands x = Check.told("clerk 4 0 0 0;");
            for (int k = 0; k < 508; k++) {
                x.rate(5, 0);
            }
            b.due("trace()", x.trace(), 508L * 100001);
        });
        b.test(1, "what later calls answer is free", "yet no call behind the 512th throws", () -> {
            NineHands x = Boundaries.full();
            for (int k = 0; k < 2000; k++) {
                x.write(k % 6);
                x.undo();
                x.rate(5, 0);
            }
            b.due("512 calls and more", 1, 1);
        });
    }

    private static void typedBytes() {
        String bytes = "The lowest n (1 .. 8) bytes of v";
        b.test(2, bytes, "n 1, the least", () -> b.due("type(65, 1)", new NineHands().type(65, 1), 1));
        b.test(2, bytes, "n 8, the most", () -> b.due("type(65, 8)", new NineHands().type(65, 8), 8));
        b.test(2, bytes, "n 0 and below, too small", () -> {
            b.bad("type(0, 0)", x -> x.type(0, 0));
            b.bad("type(0, -1)", x -> x.type(0, -1));
            b.bad("type(0, -8)", x -> x.type(0, -8));
            b.bad("type(0, LOW)", x -> x.type(0, LOW));
        });
        b.test(2, bytes, "n 9 and above, too large", () -> {
            b.bad("type(0, 9)", x -> x.type(0, 9));
            b.bad("type(0, 257)", x -> x.type(0, 257));
            b.bad("type(0, HIGH)", x -> x.type(0, HIGH));
        });
        b.test(2, bytes, "what is above the lowest n is left out", () -> {
            for (int n = 1; n < 8; n++) {
                NineHands x = new NineHands();
                long blanks = 0x2020202020202020L >>> 64 - 8 * n;
                b.due("type(.., " + n + ")", x.type(-1L << 8 * n | blanks, n), n);
                b.due("chancery()", x.chancery(), 0);
            }
        });
        b.test(2, bytes, "v at both its ends, 8 bytes", () -> {
            NineHands x = new NineHands();
            b.due("type(lowest, 8)", x.type(Long.MIN_VALUE, 8), 8);
            b.due("type(highest, 8)", x.type(Long.MAX_VALUE, 8), 16);
            b.due("type(-1, 8)", x.type(-1, 8), 24);
            // The first byte is 128: it begins no token.
            b.due("chancery()", x.chancery(), -10);
        });
        b.test(2, "the highest of them first", "8 bytes in a row, and one by one", () -> {
            NineHands x = new NineHands();
            x.type(0x6C65747465722031L, 8);
            x.type(0x20, 1);
            x.type(0x32, 1);
            b.due("type(';', 1)", x.type(0x3B, 1), 11);
            b.due("chancery()", x.chancery(), 1);
            b.due("line(0, 0)", x.line(0, 0), 1);
            b.due("line(0, 1)", x.line(0, 1), 2);
        });
    }

    private static NineHands withBytes(int bytes) {
        NineHands x = new NineHands();
        Check.typed(x, " ".repeat(bytes));
        return x;
    }

    private static void typedTooMuch() {
        String most = "a text (200 bytes at most)";
        b.test(2, most, "the 200th byte comes to it yet", () -> {
            b.due("type(32, 1) to 199", withBytes(199).type(32, 1), 200);
            b.due("type(32, 8) to 192", withBytes(192).type(32, 8), 200);
            b.due("count(4)", withBytes(200).count(4), 200);
        });
        b.test(2, most, "bytes of which some are beyond 200: FULL, and none of them comes", () -> {
            for (int n = 1; n <= 8; n++) {
                int fewer = 201 - n;
                int bytes = n;
                b.unchanged("type(-1, " + n + ") to " + fewer, x -> x.type(-1, bytes), FULL, () -> withBytes(fewer));
            }
        });
        b.test(2, most, "full: FULL for every n", () -> {
            for (int n = 1; n <= 8; n++) {
                int bytes = n;
                b.unchanged("type(-1, " + n + ")", x -> x.type(-1, bytes), FULL, () -> withBytes(200), Boundaries::full);
            }
        });
        b.test(2, "the first of these: BAD", "n is not as told, and the text is full", () -> {
            b.unchanged("type(0, 0)", x -> x.type(0, 0), BAD, () -> withBytes(200));
            b.unchanged("type(0, 9)", x -> x.type(0, 9), BAD, () -> withBytes(200), () -> withBytes(192));
        });
    }

    private static void cleared() {
        String empty = "THE TEXT is empty: how many bytes it had";
        b.test(3, empty, "it was empty", () -> {
            b.unchanged("clear()", x -> x.clear(), 0, Boundaries::bare);
            b.due("clear() behind chancery()", Check.told("letter 1 1;").clear(), 0);
        });
        b.test(3, empty, "one byte", () -> b.due("clear()", withBytes(1).clear(), 1));
        b.test(3, empty, "it was full: 200 bytes come to it anew", () -> {
            NineHands x = withBytes(200);
            b.due("clear()", x.clear(), 200);
            b.due("clear()", x.clear(), 0);
            b.due("typed", Check.typed(x, " ".repeat(200)), 200);
            b.due("type(32, 1)", x.type(32, 1), FULL);
        });
        b.test(3, empty, "what was there never comes back", () -> {
            NineHands x = new NineHands();
            Check.typed(x, "letter 1 1;letter 2 2;");
            b.due("clear()", x.clear(), 22);
            Check.typed(x, "letter 3 3;");
            b.due("chancery()", x.chancery(), 1);
            b.due("chancery() behind it", x.chancery(), 0);
        });
    }

    private static void reads(String text, int items) {
        NineHands x = new NineHands();
        Check.typed(x, text);
        b.due("chancery() of '" + text + "'", x.chancery(), items);
        b.due("count(4)", x.count(4), 0);
    }

    private static void faults(String text, int place) {
        NineHands x = new NineHands();
        Check.typed(x, text);
        b.due("chancery() of '" + text + "'", x.chancery(), -10 - place);
        b.due("count(4)", x.count(4), text.length());
    }

    private static void itemsAndBlanks() {
        b.test(4, "ITEMS (none, too)", "no text, blanks alone, blanks to the full", () -> {
            reads("", 0);
            reads(" ", 0);
            reads(" ".repeat(200), 0);
        });
        b.test(4, "ITEMS (none, too)", "seven, as many as there can be", () -> {
            reads("clerk0 0 0 0;".repeat(6) + "letter0 0;", 7);
            reads("letter0 0;" + "clerk0 0 0 0;".repeat(6), 7);
        });
        b.test(4, "blanks (32), any number", "none, many, up to the 200th byte", () -> {
            reads("letter3 1;clerk4 0 0 5;", 2);
            reads("   letter   3   1   ;   clerk   4   0   0   5   ;   ", 2);
            reads(" ".repeat(189) + "letter 3 1;", 1);
            reads("letter 3 1;" + " ".repeat(189), 1);
            reads("letter 3" + " ".repeat(190) + "1;", 1);
        });
        b.test(4, "(needed only between two rows of letters, two NUMBERS)", "where one is needed and missing", () -> {
            faults("letter31;", 6);
            faults("letter 3 1;clerkletter 4 0 0 5;", 11);
            faults("clerk 40 0 5;", 6);
            faults("clerk 4 0 05;", 10);
        });
        b.test(4, "each ended by ;", "no ; at the end, between, one too many", () -> {
            faults("letter 3 1", 10);
            faults("letter 3 1 clerk 4 0 0 5;", 11);
            faults("clerk 4 0 0 5 clerk 4 0 0 5;", 14);
            faults("letter 3 1;;", 11);
            faults(";", 0);
            faults(";letter 3 1;", 0);
        });
    }

    private static void tells(String numbers, int what, int want) {
        NineHands x = Check.told("clerk " + numbers + ";");
        b.due("clerk(0, " + what + ") of " + numbers, x.clerk(0, what), want);
    }

    private static void tellsLine(String numbers, int what, int want) {
        NineHands x = Check.told("letter " + numbers + ";");
        b.due("line(0, " + what + ") of " + numbers, x.line(0, what), want);
    }

    private static void mostThatNumbersMayBe() {
        b.test(4, "LEAN (0 .. 8)", "0, 8, and 9 beyond", () -> {
            tells("0 0 0 5", 0, 0);
            tells("8 0 0 5", 0, 8);
            faults("clerk 9 0 0 5;", 6);
        });
        b.test(4, "SETS, DROPS (0 .. 7, bits; none of both)", "SETS 0, 7, and 8 beyond", () -> {
            tells("4 0 0 5", 1, 0);
            tells("4 7 0 5", 1, 7);
            faults("clerk 4 8 0 5;", 8);
        });
        b.test(4, "SETS, DROPS (0 .. 7, bits; none of both)", "DROPS 0, 7, and 8 beyond", () -> {
            tells("4 0 0 5", 2, 0);
            tells("4 0 7 5", 2, 7);
            faults("clerk 4 0 8 5;", 10);
        });
        b.test(4, "a D that has one of S", "every S with every D", () -> {
            for (int s = 0; s <= 7; s++) {
                for (int d = 0; d <= 7; d++) {
                    String text = "clerk 4 " + s + " " + d + " 5;";
                    if ((s & d) == 0) {
                        reads(text, 1);
                    } else {
                        faults(text, 10);
                    }
                }
            }
        });
        b.test(4, "KEEPS to his habit so many in 10 (0 .. 10)", "0, 10, and 11 beyond", () -> {
            tells("4 0 0 0", 3, 0);
            tells("4 0 0 10", 3, 10);
            faults("clerk 4 0 0 11;", 12);
        });
        b.test(4, "letter T M (the first LINE", "T 0, 9, and 10 beyond", () -> {
            tellsLine("0 0", 0, 0);
            tellsLine("9 0", 0, 9);
            faults("letter 10 0;", 7);
        });
        b.test(4, "letter T M (the first LINE", "M 0, 7, and 8 beyond", () -> {
            tellsLine("0 0", 1, 0);
            tellsLine("0 7", 1, 7);
            faults("letter 0 8;", 9);
        });
        b.test(4, "a NUMBER beyond what it may be, too", "99 is a number, but beyond at every place", () -> {
            faults("clerk 99 0 0 5;", 6);
            faults("clerk 4 99 0 5;", 8);
            faults("clerk 4 0 99 5;", 10);
            faults("clerk 4 0 0 99;", 12);
            faults("letter 99 0;", 7);
            faults("letter 0 99;", 9);
        });
    }

    private static void repeatedItems() {
        String six = "clerk0 0 0 0;".repeat(6);
        b.test(4, "CLERKS 0 .. (6 at most)", "none, and six", () -> {
            b.due("count(0)", Check.told("letter 1 1;").count(0), 0);
            b.due("count(0)", Check.told(six).count(0), 6);
        });
        b.test(4, "a seventh clerk", "its word is the fault, whatever comes behind it", () -> {
            faults(six + "clerk0 0 0 0;", 78);
            faults(six + "  clerk 9 9 9 99", 80);
            faults(six + "clerk", 78);
            faults("letter0 0;" + six + "clerk", 88);
        });
        b.test(4, "once at most", "no letter, one ahead, between, behind", () -> {
            b.due("line(0, 0)", Check.told("clerk 4 0 0 5;").line(0, 0), 5);
            b.due("line(0, 0)", Check.told("letter 1 1;clerk 4 0 0 5;").line(0, 0), 1);
            b.due("line(0, 0)", Check.told("clerk 4 0 0 5;letter 1 1;clerk 4 0 0 5;").line(0, 0), 1);
            b.due("line(0, 0)", Check.told("clerk 4 0 0 5;letter 1 1;").line(0, 0), 1);
        });
        b.test(4, "a second letter", "its word is the fault, also if it tells the same", () -> {
            faults("letter 1 1;letter 1 1;", 11);
            faults("letter 1 1; clerk 4 0 0 5; letter", 27);
            faults("letter 5 0;letter 5 0;", 11);
        });
    }

    // Blanks, digits, small letters and ; begin a token; nothing else does.
    private static boolean beginsToken(int sign) {
        return sign == 32 || sign == 59 || sign >= 48 && sign <= 57 || sign >= 97 && sign <= 122;
    }

    private static void bytesOfNoToken() {
        String none = "of a byte that begins none";
        b.test(4, none, "every such byte, first of all", () -> {
            for (int sign = 0; sign < 256; sign++) {
                if (!beginsToken(sign)) {
                    faults((char) sign + "letter 1 1;", 0);
                }
            }
        });
        b.test(4, none, "every such byte, right behind a word, a number, a ;", () -> {
            for (int sign = 0; sign < 256; sign++) {
                if (!beginsToken(sign)) {
                    faults("letter" + (char) sign + " 1 1;", 6);
                    faults("letter 1" + (char) sign + " 1;", 8);
                    faults("letter 1 1;" + (char) sign, 11);
                }
            }
        });
        b.test(4, "words of letters a .. z", "the bytes just beside a and z, and great letters", () -> {
            faults("`lerk 4 0 0 5;", 0);
            faults("{lerk 4 0 0 5;", 0);
            faults("Clerk 4 0 0 5;", 0);
            faults("clerK 4 0 0 5;", 0);
            faults("letter`1 1;", 6);
            faults("letter{1 1;", 6);
        });
        b.test(4, none, "the bytes just beside 0, 9 and ;", () -> {
            faults("letter / 1;", 7);
            faults("letter : 1;", 7);
            faults("letter 1 1<", 10);
            faults("letter 1 1:", 10);
        });
        b.test(4, "blanks (32)", "no other white byte is a blank", () -> {
            char[] white = {9, 10, 11, 12, 13, 31, 33, 127, 133, 160};
            for (char sign : white) {
                faults("letter 1" + sign + "1;", 8);
            }
        });
    }

    private static void wordsOfNone() {
        String word = "a word that is none of these";
        b.test(4, word, "a letter too few or too many, at the front or at the end", () -> {
            String[] words = {"c", "l", "cler", "clerks", "clerka", "clerkz", "lerk", "aclerk", "zclerk", "lette", "letters",
                "lettera", "letterz", "etter", "aletter", "zletter"};
            for (String one : words) {
                faults(one + " 1 1;", 0);
            }
        });
        b.test(4, word, "one letter is another one", () -> {
            for (int k = 0; k < 5; k++) {
                faults("clerk".substring(0, k) + "z" + "clerk".substring(k + 1) + " 4 0 0 5;", 0);
            }
            for (int k = 0; k < 6; k++) {
                faults("letter".substring(0, k) + "z" + "letter".substring(k + 1) + " 1 1;", 0);
            }
        });
        b.test(4, word, "a word of 200 letters", () -> faults("a".repeat(200), 0));
        b.test(4, "the first TOKEN that can't stand there", "a word or a ; where a number is due, a number where none is",
            () -> {
                faults("clerk clerk 0 0 5;", 6);
                faults("clerk 4 letter 0 5;", 8);
                faults("clerk 4 0 ; 5;", 10);
                faults("clerk 4 0 0;", 11);
                faults("clerk 4 0 0 5 1;", 14);
                faults("letter;", 6);
                faults("letter 1 1 1;", 11);
                faults("1", 0);
            });
    }

    private static void numbersOfNone() {
        b.test(4, "a NUMBER above 99", "100, and numbers that wrap to small ones", () -> {
            faults("letter 100 1;", 7);
            faults("letter 101 1;", 7);
            faults("letter 256 1;", 7);
            faults("letter 4294967297 1;", 7);
            faults("letter 18446744073709551617 1;", 7);
            faults("letter " + "9".repeat(193), 7);
        });
        b.test(4, "with a 0 ahead of others", "00 to 09", () -> {
            for (int digit = 0; digit <= 9; digit++) {
                faults("letter 0" + digit + " 1;", 7);
            }
        });
        b.test(4, "with a 0 ahead of others", "007, 000, at every place", () -> {
            faults("letter 1 007;", 9);
            faults("letter 1 000;", 9);
            faults("clerk 04 0 0 5;", 6);
            faults("clerk 4 00 0 5;", 8);
            faults("clerk 4 0 00 5;", 10);
            faults("clerk 4 0 0 05;", 12);
            faults("clerk 4 0 0 010;", 12);
            faults("clerk 4 0 0 00;", 12);
        });
        b.test(4, "with a 0 ahead of others", "0 alone is a number", () -> reads("clerk 0 0 0 0;letter 0 0;", 2));
    }

    private static void endedTooEarly() {
        String early = "the text's length, if it ends too early";
        b.test(4, early, "every beginning of an item, with and without a blank behind it", () -> {
            String text = "clerk 4 0 0 5";
            for (int length : new int[] {5, 7, 9, 11, 13}) {
                faults(text.substring(0, length), length);
                faults(text.substring(0, length) + " ", length + 1);
            }
            for (int length : new int[] {6, 8, 10}) {
                faults("letter 1 1".substring(0, length), length);
                faults("letter 1 1".substring(0, length) + "   ", length + 3);
            }
        });
        b.test(4, early, "in the second item", () -> faults("letter 1 1; clerk 4 0", 21));
        b.test(4, early, "a text of 200 bytes", () -> {
            faults(" ".repeat(190) + "letter 1 1", 200);
            faults("letter 1 1" + " ".repeat(190), 200);
        });
        b.test(4, early, "but a number or a word that is wrong is the fault itself", () -> {
            faults("clerk 4 0 0 11", 12);
            faults("clerk 4 3 1", 10);
            faults("clerk 4 0 0 05", 12);
            faults("cler", 0);
        });
    }

    private static void firstFault() {
        b.test(4, "FAULT: the place of the first byte of the first TOKEN", "of two faults the first", () -> {
            faults("clerk 9 8 8 11", 6);
            faults("clerk 4 0 0 11; ?", 12);
            faults("? clerk 9", 0);
            faults("letter 1 8;letter 1 1;", 9);
        });
        b.test(4, "-10 less FAULT", "a fault at 0, at 199, and the length 200", () -> {
            faults("?", 0);
            faults(" ".repeat(199) + "?", 199);
            faults(" ".repeat(199) + ";", 199);
            faults(" ".repeat(194) + "letter", 200);
        });
    }

    private static NineHands faulty() {
        NineHands x = Boundaries.usual();
        Check.typed(x, " clerk 0 7 0 0; letter 9 7; letter");
        return x;
    }

    private static void refusedText() {
        String stays = "nothing changes (THE TEXT stays, too)";
        b.test(4, stays, "clerks and a letter stand ahead of the fault", () -> {
            b.unchanged("chancery()", x -> x.chancery(), -10 - 42, ChanceryBoundaryTests::faulty);
            NineHands x = faulty();
            b.due("chancery()", x.chancery(), -52);
            b.due("chancery() again", x.chancery(), -52);
            b.due("count(0)", x.count(0), 3);
            b.due("clerk(0, 0)", x.clerk(0, 0), 5);
            b.due("line(0, 0)", x.line(0, 0), 3);
            b.due("undo()", x.undo(), 3);
        });
        b.test(4, stays, "the text goes on behind the fault and is read then", () -> {
            NineHands x = new NineHands();
            Check.typed(x, "letter 1");
            b.due("chancery()", x.chancery(), -18);
            b.due("typed", Check.typed(x, " 2;"), 11);
            b.due("chancery()", x.chancery(), 1);
            b.due("line(0, 1)", x.line(0, 1), 2);
        });
        b.test(4, stays, "a full text with a fault is full yet", () -> {
            NineHands x = new NineHands();
            Check.typed(x, "?".repeat(200));
            b.due("chancery()", x.chancery(), -10);
            b.due("type(32, 1)", x.type(32, 1), FULL);
            b.due("clear()", x.clear(), 200);
        });
    }

    private static void readAnew() {
        String anew = "Read anew: THE LETTER has its first LINE alone, nothing SIGNED, no COPIES, IMAGES are gone, "
            + "nothing can be UNDONE";
        b.test(4, anew, "all was full", () -> {
            NineHands x = Boundaries.full();
            b.due("chancery()", x.chancery(), 2);
            int[] counts = {1, 1, 0, 0, 0};
            for (int what = 0; what < 5; what++) {
                b.due("count(" + what + ")", x.count(what), counts[what]);
            }
            b.due("line(0, 0)", x.line(0, 0), 1);
            b.due("line(1, 0)", x.line(1, 0), BAD);
            b.due("clerk(1, 0)", x.clerk(1, 0), BAD);
            b.due("undo()", x.undo(), STATE);
            b.due("back(0)", x.back(0), STATE);
            b.due("back(1)", x.back(1), STATE);
            b.due("learnt(1)", x.learnt(1), 8);
            b.due("firsts()", x.firsts(), 0);
        });
        b.test(4, anew, "by no text at all", () -> {
            NineHands x = Boundaries.usual();
            x.clear();
            b.due("chancery()", x.chancery(), 0);
            int[] counts = {0, 1, 0, 0, 0};
            for (int what = 0; what < 5; what++) {
                b.due("count(" + what + ")", x.count(what), counts[what]);
            }
            b.due("line(0, 0)", x.line(0, 0), 5);
            b.due("line(0, 1)", x.line(0, 1), 0);
            b.due("back(0)", x.back(0), STATE);
        });
        b.test(4, "THE TEXT tells all anew", "six clerks and a letter, told five times, then none", () -> {
            NineHands x = new NineHands();
            for (int k = 0; k < 5; k++) {
                Check.typed(x, "letter " + k + " " + (k + 3) + ";" + ("clerk " + k + " 0 0 5;").repeat(6));
                b.due("chancery()", x.chancery(), 7);
                b.due("count(0)", x.count(0), 6);
                b.due("clerk(5, 0)", x.clerk(5, 0), k);
                b.due("line(0, 0)", x.line(0, 0), k);
                b.due("line(0, 1)", x.line(0, 1), k + 3);
            }
            for (int k = 0; k < 3; k++) {
                b.due("chancery() of no text", x.chancery(), 0);
                b.due("count(0)", x.count(0), 0);
                b.due("line(0, 0)", x.line(0, 0), 5);
                b.due("line(0, 1)", x.line(0, 1), 0);
            }
        });
        b.test(4, "THE TEXT tells all anew", "behind texts with faults that told clerks and a letter", () -> {
            NineHands x = new NineHands();
            for (int k = 0; k < 3; k++) {
                Check.typed(x, "letter 9 7;" + "clerk 8 0 0 5;".repeat(6) + "?");
                b.due("chancery()", x.chancery(), -10 - 95);
                x.clear();
                Check.typed(x, "clerk 1 0 0 5;");
                b.due("chancery()", x.chancery(), 1);
                b.due("count(0)", x.count(0), 1);
                b.due("line(0, 0)", x.line(0, 0), 5);
                b.due("line(0, 1)", x.line(0, 1), 0);
            }
        });
        b.test(4, "THE LOT stays; THE TRACE goes on, as behind undo(), back()", "read anew", () -> {
            NineHands x = Boundaries.usual();
            x.lot(-77);
            b.due("chancery()", x.chancery(), 1);
            b.due("lot(0)", x.lot(0), -77);
            b.due("trace()", x.trace(), 11);
            x.rate(0, 0);
            b.due("trace()", x.trace(), 12);
        });
        b.test(4, "and is empty then", "behind 200 bytes that were read", () -> {
            NineHands x = Boundaries.full();
            x.chancery();
            b.due("count(4)", x.count(4), 0);
            b.due("typed", Check.typed(x, " ".repeat(200)), 200);
            b.due("chancery()", x.chancery(), 0);
        });
    }

    private static void clerks() {
        String of = "Of a CLERK: 0 LEAN, 1 SETS, 2 DROPS, 3 KEEPS";
        b.test(5, of, "what -1, 4 and farther", () -> {
            int[] whats = {-1, 4, LOW, HIGH};
            for (int what : whats) {
                b.bad("clerk(0, " + what + ")", x -> x.clerk(0, what));
            }
        });
        b.test(5, "no such thing", "no clerk yet, below the first, above the last", () -> {
            b.unchanged("clerk(0, 0)", x -> x.clerk(0, 0), BAD, Boundaries::bare);
            b.unchanged("clerk(3, 0)", x -> x.clerk(3, 0), BAD, Boundaries::usual);
            int[] numbers = {-1, 6, LOW, HIGH};
            for (int c : numbers) {
                b.bad("clerk(" + c + ", 0)", x -> x.clerk(c, 0));
            }
        });
        b.test(5, of, "the sixth of six", () -> {
            NineHands x = Check.told("clerk0 0 0 0;".repeat(5) + "clerk 8 5 2 10;");
            int[] want = {8, 5, 2, 10};
            for (int what = 0; what < 4; what++) {
                b.due("clerk(5, " + what + ")", x.clerk(5, what), want[what]);
                b.due("clerk(4, " + what + ")", x.clerk(4, what), 0);
            }
        });
    }

    private static void lines() {
        String of = "Of a LINE (0 the first): 0 TONE, 1 MARKS, 2 who wrote it (NONE)";
        b.test(6, of, "what -1, 3 and farther", () -> {
            int[] whats = {-1, 3, LOW, HIGH};
            for (int what : whats) {
                b.bad("line(0, " + what + ")", x -> x.line(0, what));
            }
        });
        b.test(6, "no such thing", "below the first, behind the last", () -> {
            b.unchanged("line(1, 0)", x -> x.line(1, 0), BAD, Boundaries::bare);
            b.unchanged("line(4, 0)", x -> x.line(4, 0), BAD, Boundaries::usual);
            int[] numbers = {-1, 10, LOW, HIGH};
            for (int i : numbers) {
                b.bad("line(" + i + ", 0)", x -> x.line(i, 0));
            }
        });
        b.test(6, of, "the tenth of ten", () -> {
            NineHands x = Boundaries.full();
            b.due("line(9, 2)", x.line(9, 2), 2);
            x.undo();
            b.due("line(9, 2) taken back", x.line(9, 2), BAD);
            x.forge(9, 7);
            b.due("line(9, 0)", x.line(9, 0), 9);
            b.due("line(9, 1)", x.line(9, 1), 7);
            b.due("line(9, 2)", x.line(9, 2), NONE);
        });
        b.test(6, "2 who wrote it (NONE)", "the first line, a forged line, a line by clerk 0", () -> {
            NineHands x = Boundaries.usual();
            b.due("line(0, 2)", x.line(0, 2), NONE);
            b.due("line(1, 2)", x.line(1, 2), 0);
            b.due("line(2, 2)", x.line(2, 2), 1);
            b.due("line(3, 2)", x.line(3, 2), NONE);
        });
    }

    private static void madeLines() {
        b.test(7, "(below 0: 0, above 9: 9)", "every lean with every tone", () -> {
            for (int lean = 0; lean <= 8; lean++) {
                NineHands x = Check.told("clerk " + lean + " 0 0 0;");
                for (int tone = 0; tone <= 9; tone++) {
                    int more = tone + lean - 4;
                    int want = more < 0 ? 0 : more > 9 ? 9 : more;
                    b.due("makes(0, " + tone + ", 0) by lean " + lean, x.makes(0, tone, 0), want);
                }
            }
        });
        b.test(7, "with the MARKS that he SETS, too, without those that he DROPS", "set that is there, drop that is not",
            () -> {
                NineHands x = Check.told("clerk 4 5 2 0;clerk 4 0 7 0;clerk 4 7 0 0;clerk 4 0 0 0;");
                for (int marks = 0; marks <= 7; marks++) {
                    b.due("makes(0, 0, " + marks + ")", x.makes(0, 0, marks), 50);
                    b.due("makes(1, 9, " + marks + ")", x.makes(1, 9, marks), 9);
                    b.due("makes(2, 9, " + marks + ")", x.makes(2, 9, marks), 79);
                    b.due("makes(3, 0, " + marks + ")", x.makes(3, 0, marks), 10 * marks);
                }
            });
        b.test(7, "A LINE has a TONE (0 ..", "-1, 10 and farther", () -> {
            int[] tones = {-1, 10, LOW, HIGH};
            for (int tone : tones) {
                b.bad("makes(0, " + tone + ", 0)", x -> x.makes(0, tone, 0));
            }
        });
        b.test(7, "MARKS (0 .. 7, bits)", "-1, 8 and farther", () -> {
            int[] rows = {-1, 8, LOW, HIGH};
            for (int marks : rows) {
                b.bad("makes(0, 0, " + marks + ")", x -> x.makes(0, 0, marks));
            }
        });
        b.test(7, "no such thing", "no clerk yet, below the first, above the last", () -> {
            b.unchanged("makes(0, 0, 0)", x -> x.makes(0, 0, 0), BAD, Boundaries::bare);
            b.unchanged("makes(3, 0, 0)", x -> x.makes(3, 0, 0), BAD, Boundaries::usual);
            int[] numbers = {-1, 6, LOW, HIGH};
            for (int c : numbers) {
                b.bad("makes(" + c + ", 0, 0)", x -> x.makes(c, 0, 0));
            }
        });
        b.test(7, "What a CLERK makes of a LINE by HABIT", "nothing is written, also when he never keeps to it", () -> {
            b.unchanged("makes(0, 9, 7)", x -> x.makes(0, 9, 7), 79, Boundaries::usual, Boundaries::full);
            b.due("makes(0, 0, 0)", Check.told("clerk 8 7 0 0;").makes(0, 0, 0), 74);
        });
    }
}
