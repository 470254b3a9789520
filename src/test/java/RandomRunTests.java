import java.util.Random;

// Runs of 512 calls on NineHands and on the model side by side; the seeds are told, so that a run comes again.
public final class RandomRunTests {
    private static final int RUNS = 3000;
    private static final int CALLS = 512;
    private static final Check check = new Check("RandomRunTests");

    private final Random random;
    private final NineHands x = new NineHands();
    private final Model model = new Model();

    private RandomRunTests(long seed) {
        random = new Random(seed);
    }

    public static void main(String[] args) {
        for (int run = 0; run < RUNS && check.wrong() == 0; run++) {
            check.part("run " + run);
            new RandomRunTests(run).go();
        }
        check.finish();
    }

    private void go() {
        int calls = 0;
        while (calls < CALLS && check.wrong() == 0) {
            calls += random.nextInt(25) == 0 ? tell() : call();
        }
    }

    private void due(String call, long got, long want) {
        check.due(call, got, want);
    }

    // Mostly a number that is as told, sometimes one just beside, seldom one far away.
    private int upTo(int most) {
        int dice = random.nextInt(60);
        if (dice == 0) {
            return random.nextInt();
        }
        if (dice == 1) {
            return random.nextBoolean() ? Integer.MIN_VALUE : Integer.MAX_VALUE;
        }
        return dice < 6 ? random.nextInt(most + 5) - 2 : random.nextInt(most + 1);
    }

    private int tell() {
        String text = randomText();
        if (random.nextInt(4) != 0) {
            due("clear()", x.clear(), model.clear());
        }
        for (int at = 0; at < text.length(); ) {
            int n = Math.min(1 + random.nextInt(8), text.length() - at);
            long v = Check.packed(text, at, n) | (n < 8 ? random.nextLong() << 8 * n : 0);
            due("type(" + v + ", " + n + ")", x.type(v, n), model.type(v, n));
            at += n;
        }
        due("chancery() of '" + text + "'", x.chancery(), model.chancery());
        due("count(4)", x.count(4), model.count(4));
        return text.length() / 5 + 4;
    }

    private String randomText() {
        StringBuilder text = new StringBuilder();
        int items = random.nextInt(8);
        int letterAt = random.nextInt(12);
        for (int k = 0; k < items; k++) {
            text.append(k == letterAt ? randomLetter() : randomClerk());
        }
        int faults = random.nextInt(3) == 0 ? 1 + random.nextInt(2) : 0;
        for (int k = 0; k < faults && text.length() > 0; k++) {
            spoil(text);
        }
        return text.toString();
    }

    private void spoil(StringBuilder text) {
        int at = random.nextInt(text.length());
        switch (random.nextInt(5)) {
            case 0 -> text.deleteCharAt(at);
            case 1 -> text.setCharAt(at, (char) random.nextInt(256));
            case 2 -> text.setLength(at);
            case 3 -> text.insert(at, "0123456789 ;clerk".charAt(random.nextInt(17)));
            default -> text.append(random.nextBoolean() ? "letter 3 3;" : ";");
        }
    }

    private String blanks(int least) {
        return " ".repeat(least + (random.nextInt(6) == 0 ? random.nextInt(3) : 0));
    }

    private String randomLetter() {
        return blanks(0) + "letter" + blanks(0) + random.nextInt(10) + blanks(1) + random.nextInt(8) + blanks(0) + ";";
    }

    private String randomClerk() {
        int sets = random.nextInt(8);
        int drops = random.nextInt(20) == 0 ? random.nextInt(8) : random.nextInt(8) & ~sets;
        if (random.nextInt(3) == 0) {
            sets = 0;
            drops = 0;
        }
        int keeps = random.nextInt(4) == 0 ? 10 * random.nextInt(2) : random.nextInt(11);
        return blanks(0) + "clerk" + blanks(0) + random.nextInt(9) + blanks(1) + sets + blanks(1) + drops
            + blanks(1) + keeps + blanks(0) + ";";
    }

    private int call() {
        switch (random.nextInt(5)) {
            case 0: return letterCall();
            case 1: return writerCall();
            case 2: return orderCall();
            case 3: return sampleCall();
            default: return otherCall();
        }
    }

    private int letterCall() {
        int a = upTo(5);
        int b = upTo(7);
        switch (random.nextInt(12)) {
            case 0: due("clerk(" + a + ", " + b + ")", x.clerk(a, b), model.clerk(a, b)); break;
            case 1: due("makes(" + a + ", 9, " + b + ")", x.makes(a, 9, b), model.makes(a, 9, b)); break;
            case 2: due("makes(" + a + ", " + b + ", 3)", x.makes(a, b, 3), model.makes(a, b, 3)); break;
            case 3: due("forge(" + a + ", " + b + ")", x.forge(a, b), model.forge(a, b)); break;
            case 4: due("undo()", x.undo(), model.undo()); break;
            case 5: due("undo()", x.undo(), model.undo()); break;
            case 6: due("turned()", x.turned(), model.turned()); break;
            case 7: due("lot(..)", x.lot(a), model.lot(a)); break;
            default: due("write(" + a + ")", x.write(a), model.write(a)); break;
        }
        return 1;
    }

    private int writerCall() {
        int c = upTo(5);
        int i = upTo(9);
        int what = upTo(1);
        switch (random.nextInt(5)) {
            case 0: due("who(" + i + ", " + what + ")", x.who(i, what), model.who(i, what)); break;
            case 1: due("rows()", x.rows(), model.rows()); break;
            case 2: due("line(" + i + ", " + c + ")", x.line(i, c), model.line(i, c)); break;
            default:
                String call = "odds(" + c + ", " + i + ", " + what + ")";
                due(call, x.odds(c, i, what), model.odds(c, i, what));
        }
        return 1;
    }

    private int orderCall() {
        int clerks = random.nextInt(3) == 0 ? upTo(63) : (1 << x.count(0)) - 1 & random.nextInt(64);
        int tone = upTo(9);
        int i = upTo(6) - 1;
        if (random.nextBoolean()) {
            String call = "order(" + clerks + ", " + tone + ", " + i + ")";
            due(call, x.order(clerks, tone, i), model.order(clerks, tone, i));
        } else {
            due("drift(" + clerks + ", " + i + ")", x.drift(clerks, i), model.drift(clerks, i));
        }
        return 2;
    }

    private int sampleCall() {
        int a = upTo(9);
        int b = upTo(7);
        // Most signed lines follow one habit, so that there is something to learn.
        int thenA = random.nextInt(5) == 0 ? upTo(9) : Math.max(0, Math.min(9, a + 2));
        int thenB = random.nextInt(5) == 0 ? upTo(7) : (b | 1) & ~4;
        int what = upTo(5);
        switch (random.nextInt(5)) {
            case 0:
                String call = "sign(" + a + ", " + b + ", " + thenA + ", " + thenB + ")";
                due(call, x.sign(a, b, thenA, thenB), model.sign(a, b, thenA, thenB));
                break;
            case 1:
                if (random.nextInt(3) == 0) {
                    due("forget()", x.forget(), model.forget());
                }
                break;
            default: due("learnt(" + what + ")", x.learnt(what), model.learnt(what));
        }
        return 1;
    }

    private int otherCall() {
        int a = upTo(7);
        int b = upTo(5);
        int image = upTo(1);
        int slips = upTo(255) & upTo(255);
        switch (random.nextInt(12)) {
            case 0: due("copy(" + slips + ")", x.copy(slips), model.copy(slips)); break;
            case 1: due("copy(" + a + ")", x.copy(a), model.copy(a)); break;
            case 2: due("came(" + a + ", " + b + ")", x.came(a, b), model.came(a, b)); break;
            case 3: due("came(" + a + ", 1)", x.came(a, 1), model.came(a, 1)); break;
            case 4: due("came(" + a + ", 2)", x.came(a, 2), model.came(a, 2)); break;
            case 5: due("firsts()", x.firsts(), model.firsts()); break;
            case 6: due("rate(" + b + ", " + a + ")", x.rate(b, a), model.rate(b, a)); break;
            case 7: due("keep(" + image + ")", x.keep(image), model.keep(image)); break;
            case 8: due("back(" + image + ")", x.back(image), model.back(image)); break;
            case 9: due("count(" + b + ")", x.count(b), model.count(b)); break;
            case 10: due("trace()", x.trace(), model.trace()); break;
            default:
                if (random.nextInt(4) == 0) {
                    due("burn()", x.burn(), model.burn());
                }
        }
        return 1;
    }
}
