// One part for each promise of the document: ordinary inputs, the edges it names, wrong inputs.
// The answers due are worked out by hand from its words.
public final class PromiseTests {
    private static final int BAD = -1, STATE = -2, FULL = -3, NONE = -9, NO = -1000000, NOT_SO_MANY = -5;
    private static final int LOW = Integer.MIN_VALUE, HIGH = Integer.MAX_VALUE;
    // Clerks who always keep to their habit: a riser, a sinker, one who changes marks alone.
    private static final String SURE = "clerk 5 1 0 10;clerk 3 0 1 10;clerk 4 6 1 10;";
    private static final Check check = new Check("PromiseTests");

    public static void main(String[] args) {
        newObject();
        type();
        clear();
        chancery();
        faultPlaces();
        chanceryReadsAnew();
        clerk();
        line();
        makes();
        write();
        lotDecides();
        forge();
        undo();
        lot();
        turned();
        who();
        rows();
        odds();
        order();
        drift();
        sign();
        learnt();
        learntNone();
        forget();
        copy();
        came();
        firsts();
        burn();
        rate();
        keep();
        back();
        count();
        trace();
        check.finish();
    }

    private static void due(String call, long got, long want) {
        check.due(call, got, want);
    }

    private static NineHands told(String text) {
        return Check.told(text);
    }

    private static void newObject() {
        check.part("promise 1");
        NineHands x = new NineHands();
        due("count(0)", x.count(0), 0);
        due("count(1)", x.count(1), 1);
        due("count(2)", x.count(2), 0);
        due("count(3)", x.count(3), 0);
        due("count(4)", x.count(4), 0);
        due("line(0, 0)", x.line(0, 0), 5);
        due("line(0, 1)", x.line(0, 1), 0);
        due("line(0, 2)", x.line(0, 2), NONE);
        due("trace()", x.trace(), 0);
        due("back(0)", x.back(0), STATE);
        due("back(1)", x.back(1), STATE);
        due("clerk(0, 0)", x.clerk(0, 0), BAD);
        due("lot(9)", x.lot(9), 1);
        due("lot(9) of another", new NineHands().lot(9), 1);
    }

    private static void type() {
        check.part("promise 2");
        NineHands x = new NineHands();
        due("type(0, 0)", x.type(0, 0), BAD);
        due("type(0, 9)", x.type(0, 9), BAD);
        due("type(0, -1)", x.type(0, -1), BAD);
        due("type(0, LOW)", x.type(0, LOW), BAD);
        due("type(0, HIGH)", x.type(0, HIGH), BAD);
        due("count(4)", x.count(4), 0);
        // The bytes above the lowest n are left out.
        due("type(letter.., 7)", x.type(0x7F6C657474657220L, 7), 7);
        due("type(2, 1)", x.type(0x123456789ABCDE32L, 1), 8);
        due("type( 3;, 3)", x.type(0xFFFFFFFFFF20333BL, 3), 11);
        due("chancery()", x.chancery(), 1);
        due("line(0, 0)", x.line(0, 0), 2);
        due("line(0, 1)", x.line(0, 1), 3);
        for (int k = 1; k <= 24; k++) {
            due("type(-1, 8)", x.type(-1L, 8), 8 * k);
        }
        due("type(0, 7)", x.type(0, 7), 199);
        due("type(0, 2)", x.type(0, 2), FULL);
        due("type(0, 9) when nearly full", x.type(0, 9), BAD);
        due("count(4)", x.count(4), 199);
        due("type(0, 1)", x.type(0, 1), 200);
        due("type(0, 1)", x.type(0, 1), FULL);
        due("type(0, 8)", x.type(0, 8), FULL);
        due("type(0, 0) when full", x.type(0, 0), BAD);
        due("chancery()", x.chancery(), -10);
        due("count(4)", x.count(4), 200);
    }

    private static void clear() {
        check.part("promise 3");
        NineHands x = told(SURE);
        due("clear()", x.clear(), 0);
        Check.typed(x, "clerk 4 0");
        due("clear()", x.clear(), 9);
        due("clear()", x.clear(), 0);
        due("count(4)", x.count(4), 0);
        due("count(0)", x.count(0), 3);
        Check.typed(x, "letter 1 1;");
        due("chancery()", x.chancery(), 1);
        due("line(0, 0)", x.line(0, 0), 1);
    }

    private static void item(String text, int want) {
        NineHands x = new NineHands();
        Check.typed(x, text);
        due("chancery() of '" + text + "'", x.chancery(), want);
        due("count(4) behind it", x.count(4), want < 0 ? text.length() : 0);
    }

    private static void chancery() {
        check.part("promise 4");
        item("", 0);
        item("   ", 0);
        item("clerk 0 0 0 0;", 1);
        item("clerk 8 7 0 10;", 1);
        item("clerk 8 0 7 10;", 1);
        item("clerk 8 5 2 10;", 1);
        item("letter 0 0;", 1);
        item("letter 9 7;", 1);
        item("clerk4 0 0 5;letter3 1;clerk4 0 0 5;", 3);
        item("  clerk   4  0 0   5  ;  letter 3   1 ;  ", 2);
        item("clerk 0 0 0 0;clerk 0 0 0 0;clerk 0 0 0 0;clerk 0 0 0 0;clerk 0 0 0 0;clerk 0 0 0 0;letter 0 0;", 7);
        item(" ".repeat(188) + "letter 0 0 ;", 1);
        NineHands x = new NineHands();
        Check.typed(x, "clerk 4 1 2 5;letter 3 1;clerk 8 0 0 10;");
        due("chancery()", x.chancery(), 3);
        due("count(0)", x.count(0), 2);
        due("clerk(1, 0)", x.clerk(1, 0), 8);
        due("line(0, 0)", x.line(0, 0), 3);
        due("chancery() of no text", x.chancery(), 0);
        due("count(0)", x.count(0), 0);
        due("line(0, 0)", x.line(0, 0), 5);
        due("line(0, 1)", x.line(0, 1), 0);
    }

    private static void fault(String text, int place) {
        item(text, -10 - place);
    }

    private static void faultPlaces() {
        check.part("promise 4, faults");
        fault(";", 0);
        fault("  ;", 2);
        fault("7", 0);
        fault("?", 0);
        fault(" \t", 1);
        fault("Clerk 4 0 0 5;", 0);
        fault("clerks 4 0 0 5;", 0);
        fault("cler", 0);
        fault("klerk 4 0 0 5;", 0);
        fault("clerka 4 0 0 5;", 0);
        fault("zclerk 4 0 0 5;", 0);
        fault("clerkz 4 0 0 5;", 0);
        fault("better 4 0;", 0);
        fault("letten 4 0;", 0);
        fault("clerkletter", 0);
        fault("clerk", 5);
        fault("clerk  ", 7);
        fault("clerk 4", 7);
        fault("clerk 4 0 ", 10);
        fault("clerk 4 0 0", 11);
        fault("clerk 4 0 0 5", 13);
        fault("clerk 4 0 0 5 ", 14);
        fault("clerk clerk 4 0 0 5;", 6);
        fault("clerk ;", 6);
        fault("clerk 9 0 0 5;", 6);
        fault("clerk 4 8 0 5;", 8);
        fault("clerk 4 0 8 5;", 10);
        fault("clerk 4 0 0 11;", 12);
        fault("clerk 4 3 2 5;", 10);
        fault("clerk 4 7 1 5;", 10);
        fault("clerk 4 0 0 5 5;", 14);
        fault("clerk 4 0 0 5 letter 0 0;", 14);
        fault("clerk 4 0 0 5letter 0 0;", 13);
        fault("clerk 4 0 0;", 11);
        fault("clerk 04 0 0 5;", 6);
        fault("clerk 4 00 0 5;", 8);
        fault("clerk 4 0 0 010;", 12);
        fault("clerk 4 0 0 09;", 12);
        fault("clerk 4 0 0 100;", 12);
        fault("clerk 99 0 0 5;", 6);
        fault("clerk 4294967300 0 0 5;", 6);
        fault("clerk 18446744073709551620 0 0 5;", 6);
        fault("clerk 4 0 0 -5;", 12);
        fault("clerk 4 0 0 5,", 13);
        fault("clerk 4 0 0 5.", 13);
        fault("clerk 4x 0 0 5;", 7);
        fault("letter", 6);
        fault("letter 5", 8);
        fault("letter 5 1", 10);
        fault("letter 10 1;", 7);
        fault("letter 5 8;", 9);
        fault("letter 5;", 8);
        fault("letter 5 1 1;", 11);
        fault("letter 5 1;;", 11);
        fault("letter 5 1;letter 5 1;", 11);
        fault("letter 5 1; clerk 4 0 0 5; letter", 27);
        fault("letter 5 1;" + (char) 233, 11);
        fault((char) 0 + "letter 5 1;", 0);
        fault("letter" + (char) 200 + "5 1;", 6);
        fault("letter 5 1; 7 ?", 12);
        String six = "clerk0 0 0 0;".repeat(6);
        fault(six + "clerk", 78);
        fault(six + " clerk 9", 79);
        fault(" ".repeat(200 - 10) + "letter 0 0", 200);
    }

    private static void chanceryReadsAnew() {
        check.part("promise 4, read anew");
        NineHands x = told(SURE + "letter 3 1;");
        x.lot(77);
        x.keep(0);
        x.write(0);
        x.keep(1);
        x.sign(1, 1, 1, 1);
        x.copy(5);
        x.rate(0, 0);
        Check.typed(x, "clerk 1 0 0 3; oh");
        due("chancery() with a fault", x.chancery(), -25);
        due("count(0)", x.count(0), 3);
        due("clerk(0, 0)", x.clerk(0, 0), 5);
        due("count(1)", x.count(1), 2);
        due("count(2)", x.count(2), 1);
        due("count(3)", x.count(3), 1);
        due("count(4)", x.count(4), 17);
        due("back(0)", x.back(0), 1);
        due("line(0, 0)", x.line(0, 0), 3);
        due("back(1)", x.back(1), 2);
        int lot = x.lot(1234);
        x.lot(lot);
        x.clear();
        Check.typed(x, "clerk 1 0 0 3;");
        due("chancery()", x.chancery(), 1);
        due("count(0)", x.count(0), 1);
        due("clerk(0, 0)", x.clerk(0, 0), 1);
        due("clerk(1, 0)", x.clerk(1, 0), BAD);
        due("count(1)", x.count(1), 1);
        due("line(0, 0)", x.line(0, 0), 5);
        due("line(0, 1)", x.line(0, 1), 0);
        due("count(2)", x.count(2), 0);
        due("count(3)", x.count(3), 0);
        due("count(4)", x.count(4), 0);
        due("undo()", x.undo(), STATE);
        due("back(0)", x.back(0), STATE);
        due("back(1)", x.back(1), STATE);
        due("lot(0)", x.lot(0), lot);
        due("trace()", x.trace(), 1);
        NineHands again = new NineHands();
        for (int k = 0; k < 4; k++) {
            Check.typed(again, "letter 3 6;clerk 4 0 0 5;");
            due("chancery() once more", again.chancery(), 2);
            due("count(0)", again.count(0), 1);
            due("line(0, 1)", again.line(0, 1), 6);
        }
        for (int k = 0; k < 2; k++) {
            due("chancery() of no text", again.chancery(), 0);
            due("line(0, 0)", again.line(0, 0), 5);
            due("line(0, 1)", again.line(0, 1), 0);
        }
    }

    private static void clerk() {
        check.part("promise 5");
        NineHands x = told("clerk 7 5 2 9;clerk 0 0 7 0;");
        due("clerk(0, 0)", x.clerk(0, 0), 7);
        due("clerk(0, 1)", x.clerk(0, 1), 5);
        due("clerk(0, 2)", x.clerk(0, 2), 2);
        due("clerk(0, 3)", x.clerk(0, 3), 9);
        due("clerk(1, 0)", x.clerk(1, 0), 0);
        due("clerk(1, 2)", x.clerk(1, 2), 7);
        due("clerk(0, 4)", x.clerk(0, 4), BAD);
        due("clerk(0, -1)", x.clerk(0, -1), BAD);
        due("clerk(2, 0)", x.clerk(2, 0), BAD);
        due("clerk(-1, 0)", x.clerk(-1, 0), BAD);
        due("clerk(LOW, 0)", x.clerk(LOW, 0), BAD);
        due("clerk(HIGH, HIGH)", x.clerk(HIGH, HIGH), BAD);
    }

    private static void line() {
        check.part("promise 6");
        NineHands x = told(SURE + "letter 2 4;");
        x.write(1);
        x.forge(9, 3);
        due("line(0, 0)", x.line(0, 0), 2);
        due("line(0, 1)", x.line(0, 1), 4);
        due("line(0, 2)", x.line(0, 2), NONE);
        due("line(1, 0)", x.line(1, 0), 1);
        due("line(1, 1)", x.line(1, 1), 4);
        due("line(1, 2)", x.line(1, 2), 1);
        due("line(2, 0)", x.line(2, 0), 9);
        due("line(2, 1)", x.line(2, 1), 3);
        due("line(2, 2)", x.line(2, 2), NONE);
        due("line(3, 0)", x.line(3, 0), BAD);
        due("line(-1, 0)", x.line(-1, 0), BAD);
        due("line(LOW, 0)", x.line(LOW, 0), BAD);
        due("line(HIGH, 0)", x.line(HIGH, 0), BAD);
        due("line(0, 3)", x.line(0, 3), BAD);
        due("line(0, -1)", x.line(0, -1), BAD);
        x.undo();
        due("line(2, 0) taken back", x.line(2, 0), BAD);
    }

    private static void makes() {
        check.part("promise 7");
        NineHands x = told("clerk 8 1 6 0;clerk 0 6 1 0;clerk 4 0 0 0;");
        due("makes(0, 0, 0)", x.makes(0, 0, 0), 14);
        due("makes(0, 5, 7)", x.makes(0, 5, 7), 19);
        due("makes(0, 6, 2)", x.makes(0, 6, 2), 19);
        due("makes(0, 9, 0)", x.makes(0, 9, 0), 19);
        due("makes(1, 5, 0)", x.makes(1, 5, 0), 61);
        due("makes(1, 3, 1)", x.makes(1, 3, 1), 60);
        due("makes(1, 0, 7)", x.makes(1, 0, 7), 60);
        due("makes(2, 9, 7)", x.makes(2, 9, 7), 79);
        due("makes(2, 0, 0)", x.makes(2, 0, 0), 0);
        due("makes(3, 0, 0)", x.makes(3, 0, 0), BAD);
        due("makes(-1, 0, 0)", x.makes(-1, 0, 0), BAD);
        due("makes(0, 10, 0)", x.makes(0, 10, 0), BAD);
        due("makes(0, -1, 0)", x.makes(0, -1, 0), BAD);
        due("makes(0, 0, 8)", x.makes(0, 0, 8), BAD);
        due("makes(0, 0, -1)", x.makes(0, 0, -1), BAD);
        due("makes(0, LOW, HIGH)", x.makes(0, LOW, HIGH), BAD);
        due("count(1)", x.count(1), 1);
        due("lot(1)", x.lot(1), 1);
    }

    private static void write() {
        check.part("promise 8");
        NineHands x = told(SURE);
        due("write(3)", x.write(3), BAD);
        due("write(-1)", x.write(-1), BAD);
        due("write(LOW)", x.write(LOW), BAD);
        due("write(HIGH)", x.write(HIGH), BAD);
        due("lot(1) behind BAD", x.lot(1), 1);
        due("write(0)", x.write(0), 16);
        due("write(2)", x.write(2), 66);
        due("write(1)", x.write(1), 65);
        x.forge(0, 7);
        due("write(1)", x.write(1), 60);
        for (int k = 0; k < 3; k++) {
            x.write(0);
        }
        due("count(1)", x.count(1), 9);
        due("write(0), the ninth", x.write(0), 74);
        x.lot(5);
        due("write(0)", x.write(0), FULL);
        due("write(3) when full", x.write(3), BAD);
        due("lot(5) behind FULL", x.lot(5), 5);
        due("count(1)", x.count(1), 10);
        x.undo();
        due("write(2)", x.write(2), 63);
    }

    private static void lotDecides() {
        check.part("promise 8, the lot");
        // From 0 the lot is 12345 (draw 0), from 1 it is 1103527590 (upper bits 16838, draw 8).
        NineHands x = told("clerk 5 0 0 8;clerk 5 0 0 9;clerk 5 0 0 0;clerk 5 0 0 1;");
        due("write(0)", x.write(0), 5);
        due("lot(1)", x.lot(1), 1103527590);
        due("write(1)", x.write(1), 6);
        due("line(1, 2), a copy", x.line(1, 2), 0);
        x.lot(0);
        due("write(2)", x.write(2), 6);
        due("lot(0)", x.lot(0), 12345);
        due("write(3)", x.write(3), 7);
        // From 2 it wraps to -2087924461: as a number from 0 on the upper bits are 33676, draw 6.
        NineHands y = told("clerk 5 0 0 6;clerk 5 0 0 7;");
        y.lot(2);
        due("write(0)", y.write(0), 5);
        due("lot(2)", y.lot(2), -2087924461);
        due("write(1)", y.write(1), 6);
    }

    private static void forge() {
        check.part("promise 9");
        NineHands x = told(SURE);
        due("forge(10, 0)", x.forge(10, 0), BAD);
        due("forge(-1, 0)", x.forge(-1, 0), BAD);
        due("forge(0, 8)", x.forge(0, 8), BAD);
        due("forge(0, -1)", x.forge(0, -1), BAD);
        due("forge(LOW, HIGH)", x.forge(LOW, HIGH), BAD);
        due("count(1)", x.count(1), 1);
        due("forge(0, 0)", x.forge(0, 0), 2);
        due("forge(9, 7)", x.forge(9, 7), 3);
        due("line(2, 0)", x.line(2, 0), 9);
        due("line(2, 1)", x.line(2, 1), 7);
        due("line(2, 2)", x.line(2, 2), NONE);
        due("lot(1)", x.lot(1), 1);
        due("write(1)", x.write(1), 68);
        for (int k = 5; k <= 10; k++) {
            due("forge(5, 5)", x.forge(5, 5), k);
        }
        due("forge(5, 5)", x.forge(5, 5), FULL);
        due("forge(10, 5) when full", x.forge(10, 5), BAD);
        due("write(0) when full", x.write(0), FULL);
    }

    private static void undo() {
        check.part("promise 10");
        NineHands x = told(SURE);
        due("undo()", x.undo(), STATE);
        x.write(0);
        x.forge(0, 0);
        int lot = x.lot(0);
        x.lot(lot);
        due("undo()", x.undo(), 2);
        due("undo()", x.undo(), 1);
        due("lot stays", x.lot(1), lot);
        due("undo()", x.undo(), STATE);
        due("count(1)", x.count(1), 1);
        due("line(0, 0)", x.line(0, 0), 5);
        due("write(0)", x.write(0), 16);
    }

    private static void lot() {
        check.part("promise 11");
        NineHands x = new NineHands();
        due("lot(-5)", x.lot(-5), 1);
        due("lot(LOW)", x.lot(LOW), -5);
        due("lot(HIGH)", x.lot(HIGH), LOW);
        due("lot(0)", x.lot(0), HIGH);
        due("lot(0)", x.lot(0), 0);
    }

    private static void turned() {
        check.part("promise 12");
        NineHands warm = told("letter 5 0;");
        due("turned() of one", warm.turned(), NONE);
        warm.forge(9, 0);
        warm.forge(5, 0);
        due("turned() all warm", warm.turned(), NONE);
        warm.forge(4, 0);
        warm.forge(0, 0);
        warm.forge(9, 0);
        due("turned()", warm.turned(), 3);
        NineHands soon = told("letter 5 0;");
        soon.forge(4, 0);
        due("turned() at once", soon.turned(), 1);
        NineHands hot = told("letter 9 0;");
        hot.forge(5, 0);
        due("turned() nearer, yet warm", hot.turned(), NONE);
        hot.forge(4, 0);
        due("turned()", hot.turned(), 2);
        NineHands cold = told("letter 4 7;");
        cold.forge(0, 7);
        cold.forge(4, 7);
        due("turned() all cold", cold.turned(), NONE);
        cold.forge(5, 7);
        due("turned()", cold.turned(), 3);
        cold.undo();
        due("turned() taken back", cold.turned(), NONE);
        NineHands ice = told("letter 0 0;");
        ice.forge(4, 0);
        due("turned() nearer, yet cold", ice.turned(), NONE);
        ice.forge(9, 0);
        due("turned()", ice.turned(), 2);
    }

    private static void who() {
        check.part("promise 13");
        NineHands x = told("clerk 5 0 0 4;clerk 5 0 0 7;clerk 4 0 0 3;clerk 5 1 0 10;clerk 8 0 0 7;");
        due("who(0, 0)", x.who(0, 0), BAD);
        due("who(1, 0)", x.who(1, 0), BAD);
        x.forge(6, 0);
        due("who(1, 0)", x.who(1, 0), 3);
        due("who(1, 1)", x.who(1, 1), 1);
        x.forge(6, 0);
        // A copy: 6, 3, 10 (habit and copy are alike), 0, 3 ways.
        due("who(2, 0)", x.who(2, 0), 23);
        due("who(2, 1)", x.who(2, 1), 2);
        x.forge(7, 1);
        due("who(3, 0)", x.who(3, 0), 8);
        due("who(3, 1)", x.who(3, 1), 3);
        x.forge(0, 1);
        due("who(4, 0)", x.who(4, 0), 0);
        due("who(4, 1)", x.who(4, 1), NONE);
        due("who(4, 2)", x.who(4, 2), BAD);
        due("who(4, -1)", x.who(4, -1), BAD);
        due("who(5, 0)", x.who(5, 0), BAD);
        due("who(-1, 0)", x.who(-1, 0), BAD);
        due("who(LOW, 0)", x.who(LOW, 0), BAD);
        due("who(HIGH, 1)", x.who(HIGH, 1), BAD);
        // At the upper end a lean is a copy; of two alike the least number is told.
        NineHands y = told("letter 9 0;clerk 8 0 0 2;clerk 4 0 0 9;clerk 5 0 0 0;");
        y.forge(9, 0);
        due("who(1, 0)", y.who(1, 0), 7);
        due("who(1, 1)", y.who(1, 1), 0);
        // Who really wrote it does not count.
        y.write(2);
        due("who(2, 0)", y.who(2, 0), 7);
        // A clerk who never copies, one who never keeps to his habit.
        NineHands z = told("clerk 5 0 0 10;clerk 5 0 0 0;");
        z.forge(5, 0);
        z.forge(6, 0);
        due("who(1, 0)", z.who(1, 0), 2);
        due("who(2, 0)", z.who(2, 0), 1);
        // One way of ten is a way.
        NineHands one = told("clerk 5 0 0 1;clerk 3 0 0 9;");
        one.forge(6, 0);
        due("who(1, 0)", one.who(1, 0), 1);
        due("who(1, 1)", one.who(1, 1), 0);
        due("rows()", one.rows(), 1);
        due("odds(0, 1, 1)", one.odds(0, 1, 1), 1);
        due("odds(1, 1, 0)", one.odds(1, 1, 0), 0);
        one.forge(6, 0);
        due("who(2, 1)", one.who(2, 1), 0);
        due("odds(0, 2, 0)", one.odds(0, 2, 0), 9);
        due("odds(1, 2, 0)", one.odds(1, 2, 0), 1);
        due("odds(1, 2, 1)", one.odds(1, 2, 1), 10);
        NineHands nobody = new NineHands();
        nobody.forge(5, 0);
        due("who(1, 0) of nobody", nobody.who(1, 0), 0);
        due("who(1, 1) of nobody", nobody.who(1, 1), NONE);
    }

    private static void rows() {
        check.part("promise 14");
        NineHands x = told("clerk 4 0 0 5;".repeat(6));
        due("rows() of the first line", x.rows(), 1);
        int want = 1;
        for (int k = 0; k < 9; k++) {
            x.forge(5, 0);
            want *= 6;
            due("rows()", x.rows(), want);
        }
        due("rows() of all", x.rows(), 10077696);
        x.undo();
        x.forge(0, 0);
        due("rows() with a line by nobody", x.rows(), 0);
        NineHands y = told("clerk 5 0 0 5;clerk 5 0 0 10;clerk 4 0 0 1;");
        y.forge(6, 0);
        y.forge(6, 0);
        y.forge(7, 0);
        due("rows()", y.rows(), 8);
        NineHands nobody = new NineHands();
        due("rows() of nobody, no line", nobody.rows(), 1);
        nobody.forge(5, 0);
        due("rows() of nobody", nobody.rows(), 0);
    }

    private static void odds() {
        check.part("promise 15");
        NineHands x = told("clerk 5 0 0 4;clerk 5 0 0 6;clerk 4 0 0 3;clerk 6 0 0 5;");
        x.forge(6, 0);
        due("odds(0, 1, 0)", x.odds(0, 1, 0), 2);
        due("odds(0, 1, 1)", x.odds(0, 1, 1), 5);
        due("odds(1, 1, 0)", x.odds(1, 1, 0), 3);
        due("odds(1, 1, 1)", x.odds(1, 1, 1), 5);
        due("odds(2, 1, 0)", x.odds(2, 1, 0), 0);
        due("odds(2, 1, 1)", x.odds(2, 1, 1), 1);
        x.forge(6, 0);
        // 6, 4, 10, 5 ways of 25.
        due("odds(0, 2, 0)", x.odds(0, 2, 0), 6);
        due("odds(0, 2, 1)", x.odds(0, 2, 1), 25);
        due("odds(2, 2, 0)", x.odds(2, 2, 0), 2);
        due("odds(2, 2, 1)", x.odds(2, 2, 1), 5);
        x.forge(8, 0);
        due("odds(3, 3, 0)", x.odds(3, 3, 0), 1);
        due("odds(3, 3, 1)", x.odds(3, 3, 1), 1);
        x.forge(0, 0);
        due("odds(0, 4, 0)", x.odds(0, 4, 0), STATE);
        due("odds(3, 4, 1)", x.odds(3, 4, 1), STATE);
        due("odds(3, 3, 0), another line", x.odds(3, 3, 0), 1);
        due("odds(4, 4, 0)", x.odds(4, 4, 0), BAD);
        due("odds(-1, 4, 0)", x.odds(-1, 4, 0), BAD);
        due("odds(0, 5, 0)", x.odds(0, 5, 0), BAD);
        due("odds(0, 0, 0)", x.odds(0, 0, 0), BAD);
        due("odds(0, -1, 0)", x.odds(0, -1, 0), BAD);
        due("odds(0, 4, 2)", x.odds(0, 4, 2), BAD);
        due("odds(0, 4, -1)", x.odds(0, 4, -1), BAD);
        due("odds(LOW, HIGH, LOW)", x.odds(LOW, HIGH, LOW), BAD);
        NineHands nobody = new NineHands();
        nobody.forge(5, 0);
        due("odds(0, 1, 0) of nobody", nobody.odds(0, 1, 0), BAD);
    }

    private static void order() {
        check.part("promise 16");
        // By tones from 5: 0 goes up 4, 1 down 4, 2 up 1, and both ends hold.
        NineHands x = told("clerk 8 0 0 0;clerk 0 0 0 0;clerk 5 0 0 0;");
        due("order(0, 5, -1)", x.order(0, 5, -1), 0);
        due("order(0, 0, -1)", x.order(0, 0, -1), 5);
        due("order(0, 0, 0)", x.order(0, 0, 0), NOT_SO_MANY);
        due("order(1, 0, -1)", x.order(1, 0, -1), 9);
        due("order(1, 0, 0)", x.order(1, 0, 0), 0);
        due("order(1, 0, 1)", x.order(1, 0, 1), NOT_SO_MANY);
        due("order(4, 9, -1)", x.order(4, 9, -1), 3);
        due("order(4, 9, 0)", x.order(4, 9, 0), 2);
        // 0 1 2: 9 5 6. 0 2 1: 9 9 5. 1 0 2: 1 5 6. 1 2 0: 1 2 6. 2 0 1: 6 9 5. 2 1 0: 6 2 6.
        due("order(7, 9, -1)", x.order(7, 9, -1), 3);
        due("order(7, 9, 0)", x.order(7, 9, 0), 0);
        due("order(7, 9, 1)", x.order(7, 9, 1), 1);
        due("order(7, 9, 2)", x.order(7, 9, 2), 2);
        due("order(7, 5, -1)", x.order(7, 5, -1), 0);
        due("order(7, 5, 0)", x.order(7, 5, 0), 0);
        due("order(7, 5, 1)", x.order(7, 5, 1), 2);
        due("order(7, 5, 2)", x.order(7, 5, 2), 1);
        due("order(7, 5, 3)", x.order(7, 5, 3), NOT_SO_MANY);
        due("order(7, 5, HIGH)", x.order(7, 5, HIGH), NOT_SO_MANY);
        due("order(8, 5, 0)", x.order(8, 5, 0), BAD);
        due("order(-1, 5, 0)", x.order(-1, 5, 0), BAD);
        due("order(LOW, 5, 0)", x.order(LOW, 5, 0), BAD);
        due("order(7, 10, 0)", x.order(7, 10, 0), BAD);
        due("order(7, -1, 0)", x.order(7, -1, 0), BAD);
        due("order(7, 5, -2)", x.order(7, 5, -2), BAD);
        due("order(7, 10, 3)", x.order(7, 10, 3), BAD);
        due("order(0, 10, -1)", x.order(0, 10, -1), BAD);
        // It goes on behind the last line, not the first.
        x.forge(9, 0);
        due("order(1, 9, -1) behind 9", x.order(1, 9, -1), 0);
        due("count(1)", x.count(1), 2);
        NineHands six = told("clerk 5 0 0 0;clerk 5 0 0 0;clerk 5 0 0 0;clerk 0 0 0 0;clerk 0 0 0 0;clerk 8 0 0 0;");
        // Only with both fours down ahead of all others it can be 7 at last: 0, then 4, 3 and three up.
        due("order(63, 7, -1)", six.order(63, 7, -1), 0);
        due("order(63, 7, 0)", six.order(63, 7, 0), 3);
        due("order(63, 7, 1)", six.order(63, 7, 1), 4);
        due("order(63, 7, 2)", six.order(63, 7, 2), 0);
        due("order(63, 7, 3)", six.order(63, 7, 3), 1);
        due("order(63, 7, 4)", six.order(63, 7, 4), 2);
        due("order(63, 7, 5)", six.order(63, 7, 5), 5);
        due("order(64, 7, 5)", six.order(64, 7, 5), BAD);
    }

    private static void drift() {
        check.part("promise 17");
        NineHands x = told("clerk 8 0 0 0;clerk 0 0 0 0;clerk 7 0 0 0;");
        due("drift(0, -1)", x.drift(0, -1), 0);
        due("drift(0, 0)", x.drift(0, 0), NOT_SO_MANY);
        due("drift(1, -1)", x.drift(1, -1), 4);
        due("drift(1, 0)", x.drift(1, 0), 0);
        due("drift(4, -1)", x.drift(4, -1), 3);
        // 0 1 2: 9 5 8. 0 2 1: 9 9 5. 1 0 2: 1 5 8. 1 2 0: 1 4 8. 2 0 1: 8 9 5. 2 1 0: 8 4 8: 3 away.
        due("drift(7, -1)", x.drift(7, -1), 3);
        due("drift(7, 0)", x.drift(7, 0), 2);
        due("drift(7, 1)", x.drift(7, 1), 1);
        due("drift(7, 2)", x.drift(7, 2), 0);
        due("drift(7, 3)", x.drift(7, 3), NOT_SO_MANY);
        // Of several the first by numbers: 0 2 and 2 0 are both 4 away.
        due("drift(5, -1)", x.drift(5, -1), 4);
        due("drift(5, 0)", x.drift(5, 0), 0);
        due("drift(5, 1)", x.drift(5, 1), 2);
        due("drift(8, 0)", x.drift(8, 0), BAD);
        due("drift(-1, 0)", x.drift(-1, 0), BAD);
        due("drift(LOW, -1)", x.drift(LOW, -1), BAD);
        due("drift(7, -2)", x.drift(7, -2), BAD);
        due("drift(7, LOW)", x.drift(7, LOW), BAD);
        due("drift(7, HIGH)", x.drift(7, HIGH), NOT_SO_MANY);
        // From that of the last line: at 9 it goes up no more.
        x.forge(9, 0);
        due("drift(5, -1) from 9", x.drift(5, -1), 0);
        due("drift(7, -1) from 9", x.drift(7, -1), 4);
        due("drift(7, 0) from 9", x.drift(7, 0), 0);
    }

    private static void sign() {
        check.part("promise 18");
        NineHands x = new NineHands();
        due("sign(10, 0, 0, 0)", x.sign(10, 0, 0, 0), BAD);
        due("sign(-1, 0, 0, 0)", x.sign(-1, 0, 0, 0), BAD);
        due("sign(0, 8, 0, 0)", x.sign(0, 8, 0, 0), BAD);
        due("sign(0, -1, 0, 0)", x.sign(0, -1, 0, 0), BAD);
        due("sign(0, 0, 10, 0)", x.sign(0, 0, 10, 0), BAD);
        due("sign(0, 0, -1, 0)", x.sign(0, 0, -1, 0), BAD);
        due("sign(0, 0, 0, 8)", x.sign(0, 0, 0, 8), BAD);
        due("sign(0, 0, 0, -1)", x.sign(0, 0, 0, -1), BAD);
        due("count(2)", x.count(2), 0);
        for (int k = 1; k <= 8; k++) {
            due("sign(9, 7, 9, 7)", x.sign(9, 7, 9, 7), k);
        }
        due("sign(9, 7, 9, 7)", x.sign(9, 7, 9, 7), FULL);
        due("sign(9, 8, 9, 7) when full", x.sign(9, 8, 9, 7), BAD);
        due("count(2)", x.count(2), 8);
    }

    private static void learntAll(NineHands x, int least, int most, int mustSet, int mustDrop, int maySet, int mayDrop) {
        due("learnt(0)", x.learnt(0), least);
        due("learnt(1)", x.learnt(1), most);
        due("learnt(2)", x.learnt(2), mustSet);
        due("learnt(3)", x.learnt(3), mustDrop);
        due("learnt(4)", x.learnt(4), maySet);
        due("learnt(5)", x.learnt(5), mayDrop);
    }

    private static void learnt() {
        check.part("promise 19");
        NineHands x = new NineHands();
        learntAll(x, 0, 8, 0, 0, 7, 7);
        due("learnt(-1)", x.learnt(-1), BAD);
        due("learnt(6)", x.learnt(6), BAD);
        due("learnt(LOW)", x.learnt(LOW), BAD);
        // Mark 1 set, mark 2 dropped, mark 4 stays away: dropped or left.
        x.sign(2, 2, 0, 1);
        learntAll(x, 0, 2, 1, 2, 1, 6);
        // Mark 4 stays there now: neither set nor dropped.
        x.sign(3, 4, 1, 5);
        learntAll(x, 2, 2, 1, 2, 1, 2);
        x.forget();
        // At the upper end of the tones any lean up fits.
        x.sign(7, 7, 9, 7);
        learntAll(x, 6, 8, 0, 0, 7, 0);
        x.sign(6, 0, 9, 7);
        learntAll(x, 7, 8, 7, 0, 7, 0);
        x.forget();
        x.sign(0, 0, 4, 0);
        learntAll(x, 8, 8, 0, 0, 0, 7);
        x.forget();
        x.sign(9, 0, 5, 0);
        learntAll(x, 0, 0, 0, 0, 0, 7);
        x.sign(3, 7, 0, 7);
        learntAll(x, 0, 0, 0, 0, 0, 0);
        // The letter and its clerks are another thing.
        NineHands y = told(SURE);
        y.write(0);
        learntAll(y, 0, 8, 0, 0, 7, 7);
        y.sign(0, 7, 0, 0);
        learntAll(y, 0, 4, 0, 7, 0, 7);
        y.sign(9, 0, 9, 0);
        learntAll(y, 4, 4, 0, 7, 0, 7);
    }

    private static void learntNone() {
        check.part("promise 19, none fit");
        NineHands x = new NineHands();
        x.sign(0, 0, 5, 0);
        learntAll(x, NONE, NONE, NONE, NONE, NONE, NONE);
        due("learnt(6)", x.learnt(6), BAD);
        x.forget();
        x.sign(5, 0, 5, 0);
        x.sign(5, 0, 6, 0);
        learntAll(x, NONE, NONE, NONE, NONE, NONE, NONE);
        x.forget();
        // A mark set behind one line and dropped behind another.
        x.sign(5, 0, 5, 2);
        x.sign(5, 2, 5, 0);
        learntAll(x, NONE, NONE, NONE, NONE, NONE, NONE);
        x.forget();
        // Dropped once, left once.
        x.sign(5, 4, 5, 4);
        x.sign(5, 4, 5, 0);
        learntAll(x, NONE, NONE, NONE, NONE, NONE, NONE);
    }

    private static void forget() {
        check.part("promise 20");
        NineHands x = new NineHands();
        due("forget()", x.forget(), 0);
        x.sign(5, 0, 6, 1);
        x.sign(5, 0, 6, 1);
        due("forget()", x.forget(), 2);
        due("forget()", x.forget(), 0);
        due("count(2)", x.count(2), 0);
        learntAll(x, 0, 8, 0, 0, 7, 7);
        due("sign(5, 0, 5, 0)", x.sign(5, 0, 5, 0), 1);
        learntAll(x, 4, 4, 0, 0, 0, 7);
    }

    private static void copy() {
        check.part("promise 21");
        NineHands x = new NineHands();
        due("copy(-1)", x.copy(-1), BAD);
        due("copy(256)", x.copy(256), BAD);
        due("copy(LOW)", x.copy(LOW), BAD);
        due("copy(HIGH)", x.copy(HIGH), BAD);
        due("count(3)", x.count(3), 0);
        due("copy(0)", x.copy(0), 0);
        due("copy(255)", x.copy(255), 1);
        for (int k = 2; k < 8; k++) {
            due("copy(7)", x.copy(7), k);
        }
        due("copy(7)", x.copy(7), FULL);
        due("copy(256) when full", x.copy(256), BAD);
        due("count(3)", x.count(3), 8);
    }

    private static void came() {
        check.part("promise 22");
        NineHands x = new NineHands();
        x.copy(15);
        x.copy(3);
        x.copy(6);
        x.copy(2);
        x.copy(240);
        x.copy(3);
        x.copy(3);
        x.copy(14);
        int[] origins = {7, 3, 3, NONE, NONE, 1, 1, 2};
        int[] depths = {3, 1, 1, 0, 0, 2, 2, 2};
        int[] slips = {15, 3, 6, 2, 240, 3, 3, 14};
        for (int k = 0; k < 8; k++) {
            due("came(" + k + ", 0)", x.came(k, 0), slips[k]);
            due("came(" + k + ", 1)", x.came(k, 1), origins[k]);
            due("came(" + k + ", 2)", x.came(k, 2), depths[k]);
        }
        due("came(8, 0)", x.came(8, 0), BAD);
        due("came(-1, 0)", x.came(-1, 0), BAD);
        due("came(LOW, 0)", x.came(LOW, 0), BAD);
        due("came(0, 3)", x.came(0, 3), BAD);
        due("came(0, -1)", x.came(0, -1), BAD);
        // Of several with as many slips the least number; the most slips, not the last that fits.
        NineHands y = new NineHands();
        y.copy(8);
        y.copy(6);
        y.copy(5);
        y.copy(7);
        due("came(3, 1)", y.came(3, 1), 1);
        due("came(4, 0)", y.came(4, 0), BAD);
        // A chain as long as can be, told backwards.
        NineHands z = new NineHands();
        for (int k = 8; k > 0; k--) {
            z.copy((1 << k) - 1);
        }
        due("came(0, 2)", z.came(0, 2), 7);
        due("came(7, 2)", z.came(7, 2), 0);
        due("came(0, 1)", z.came(0, 1), 1);
        NineHands same = new NineHands();
        for (int k = 0; k < 8; k++) {
            same.copy(255);
        }
        due("came(0, 1)", same.came(0, 1), NONE);
        due("came(7, 1)", same.came(7, 1), 0);
        due("came(7, 2)", same.came(7, 2), 1);
    }

    private static void firsts() {
        check.part("promise 23");
        NineHands x = new NineHands();
        due("firsts()", x.firsts(), 0);
        x.copy(12);
        due("firsts()", x.firsts(), 1);
        x.copy(3);
        due("firsts()", x.firsts(), 3);
        x.copy(12);
        due("firsts()", x.firsts(), 3);
        x.copy(4);
        due("firsts()", x.firsts(), 10);
        x.copy(0);
        due("firsts()", x.firsts(), 16);
    }

    private static void burn() {
        check.part("promise 24");
        NineHands x = new NineHands();
        due("burn()", x.burn(), 0);
        x.copy(1);
        x.copy(3);
        due("burn()", x.burn(), 2);
        due("burn()", x.burn(), 0);
        due("count(3)", x.count(3), 0);
        due("came(0, 0)", x.came(0, 0), BAD);
        due("firsts()", x.firsts(), 0);
        due("copy(3)", x.copy(3), 0);
        due("came(0, 1)", x.came(0, 1), NONE);
    }

    private static void rate() {
        check.part("promise 25");
        NineHands x = told("clerk 8 3 4 1;clerk 0 1 6 10;clerk 4 0 7 0;");
        due("rate(0, 0)", x.rate(0, 0), 4);
        due("rate(1, 0)", x.rate(1, 0), 6);
        due("rate(2, 0)", x.rate(2, 0), 3);
        due("rate(3, 0)", x.rate(3, 0), 12);
        due("rate(4, 0)", x.rate(4, 0), 3);
        due("rate(5, 0)", x.rate(5, 0), 13);
        due("rate(0, 1)", x.rate(0, 1), -4);
        due("rate(1, 1)", x.rate(1, 1), -3);
        due("rate(2, 1)", x.rate(2, 1), -6);
        due("rate(3, 1)", x.rate(3, 1), -6);
        due("rate(4, 1)", x.rate(4, 1), -5);
        due("rate(5, 1)", x.rate(5, 1), -4);
        due("rate(4, 2)", x.rate(4, 2), -1);
        due("rate(5, 2)", x.rate(5, 2), 10);
        due("rate(6, 0)", x.rate(6, 0), NO);
        due("rate(-1, 0)", x.rate(-1, 0), NO);
        due("rate(LOW, 0)", x.rate(LOW, 0), NO);
        due("rate(0, 3)", x.rate(0, 3), NO);
        due("rate(0, -1)", x.rate(0, -1), NO);
        due("rate(HIGH, HIGH)", x.rate(HIGH, HIGH), NO);
    }

    private static void keep() {
        check.part("promise 26");
        NineHands x = told(SURE);
        due("keep(2)", x.keep(2), BAD);
        due("keep(-1)", x.keep(-1), BAD);
        due("keep(LOW)", x.keep(LOW), BAD);
        due("keep(HIGH)", x.keep(HIGH), BAD);
        due("keep(0)", x.keep(0), 1);
        x.write(0);
        x.write(1);
        due("keep(1)", x.keep(1), 3);
        due("count(1)", x.count(1), 3);
        due("back(0)", x.back(0), 1);
        due("back(1)", x.back(1), 3);
        // Kept again: the former is gone.
        due("keep(0)", x.keep(0), 3);
        x.undo();
        due("back(0)", x.back(0), 3);
        // What is written behind does not reach into the image.
        x.undo();
        x.undo();
        x.forge(0, 0);
        due("back(0)", x.back(0), 3);
        due("line(1, 0)", x.line(1, 0), 6);
        due("line(1, 2)", x.line(1, 2), 0);
    }

    private static void back() {
        check.part("promise 27");
        NineHands x = told(SURE + "letter 3 6;");
        due("back(2)", x.back(2), BAD);
        due("back(-1)", x.back(-1), BAD);
        due("back(LOW)", x.back(LOW), BAD);
        due("back(0)", x.back(0), STATE);
        x.write(1);
        x.forge(9, 1);
        x.lot(-44);
        x.keep(0);
        due("back(1)", x.back(1), STATE);
        x.lot(0);
        x.undo();
        x.undo();
        x.write(0);
        x.sign(1, 1, 1, 1);
        x.copy(9);
        x.rate(0, 0);
        Check.typed(x, "letter");
        due("back(0)", x.back(0), 3);
        due("line(0, 0)", x.line(0, 0), 3);
        due("line(0, 1)", x.line(0, 1), 6);
        due("line(0, 2)", x.line(0, 2), NONE);
        due("line(1, 0)", x.line(1, 0), 2);
        due("line(1, 1)", x.line(1, 1), 6);
        due("line(1, 2)", x.line(1, 2), 1);
        due("line(2, 0)", x.line(2, 0), 9);
        due("line(2, 1)", x.line(2, 1), 1);
        due("line(2, 2)", x.line(2, 2), NONE);
        due("lot(7)", x.lot(7), -44);
        // Nothing else comes back.
        due("count(2)", x.count(2), 1);
        due("count(3)", x.count(3), 1);
        due("count(4)", x.count(4), 6);
        due("trace()", x.trace(), 1);
        due("undo()", x.undo(), 2);
        due("back(0) again", x.back(0), 3);
        due("lot(7)", x.lot(7), -44);
    }

    private static void count() {
        check.part("promise 28");
        NineHands x = told(SURE);
        x.write(0);
        x.forge(1, 1);
        x.write(0);
        x.sign(1, 1, 1, 1);
        x.sign(1, 1, 1, 1);
        x.copy(3);
        Check.typed(x, "clerk");
        due("count(0)", x.count(0), 3);
        due("count(1)", x.count(1), 4);
        due("count(2)", x.count(2), 2);
        due("count(3)", x.count(3), 1);
        due("count(4)", x.count(4), 5);
        due("count(5)", x.count(5), BAD);
        due("count(-1)", x.count(-1), BAD);
        due("count(LOW)", x.count(LOW), BAD);
        due("count(HIGH)", x.count(HIGH), BAD);
    }

    private static void trace() {
        check.part("promise 29");
        int[] bodies = {1, 11, 101, 1011, 10101, 100001};
        NineHands x = told(SURE);
        long want = 0;
        for (int kind = 0; kind < 6; kind++) {
            x.rate(kind, kind % 3);
            want += bodies[kind];
            due("trace() behind kind " + kind, x.trace(), want);
        }
        x.rate(6, 0);
        x.rate(0, 3);
        due("trace() behind NO", x.trace(), want);
        x.write(0);
        x.keep(0);
        x.undo();
        due("trace() behind undo()", x.trace(), want);
        x.back(0);
        due("trace() behind back()", x.trace(), want);
        x.chancery();
        due("trace() behind chancery()", x.trace(), want);
    }
}
