import java.io.IOException;
import java.nio.file.Files;
import java.nio.file.Path;
import java.util.ArrayList;
import java.util.HashSet;
import java.util.List;
import java.util.Set;

// Tests of boundary cases: each bears its promise, the document's sentence that names the case, and the edge it tries.
final class Boundaries {
    interface Part {
        void go();
    }

    interface Make {
        NineHands make();
    }

    interface Call {
        long of(NineHands x);
    }

    private static final Path DOCUMENT = Path.of("../shared/DOC.md");
    private static final int BAD = -1;

    private final Check check;
    private final String document;
    private final Set<String> names = new HashSet<>();
    private final Set<Integer> promises = new HashSet<>();

    Boundaries(String name) {
        check = new Check(name);
        document = readDocument();
    }

    // Without the document the sentences can't be looked up, but all answers are still asked.
    private static String readDocument() {
        try {
            return plain(Files.readString(DOCUMENT));
        } catch (IOException e) {
            System.out.println(DOCUMENT + " can't be read: the sentences are not looked up");
            return null;
        }
    }

    private static String plain(String text) {
        return text.replaceAll("\\s+", " ");
    }

    void test(int promise, String sentence, String edge, Part part) {
        String name = "promise " + promise + ", \"" + sentence + "\": " + edge;
        check.part(name);
        int askedAhead = check.asked();
        int wrongAhead = check.wrong();
        part.go();
        check.holds("something was asked", check.asked() > askedAhead);
        check.holds("the name is no other test's", names.add(name));
        check.holds("the document has this sentence", document == null || document.contains(plain(sentence)));
        promises.add(promise);
        System.out.println((check.wrong() == wrongAhead ? "  holds: " : "  BROKEN: ") + name);
    }

    void due(String call, long got, long want) {
        check.due(call, got, want);
    }

    // Of two objects made alike one is asked: the answer is as due, and both tell the same of all that they hold.
    void unchanged(String told, Call call, long want, Make... makes) {
        for (int k = 0; k < makes.length; k++) {
            NineHands asked = makes[k].make();
            NineHands left = makes[k].make();
            due(told + ", object " + k, call.of(asked), want);
            check.holds("nothing changed by " + told + ", object " + k, held(asked).equals(held(left)));
        }
    }

    // A number that is never as told, whatever the object holds.
    void bad(String told, Call call) {
        unchanged(told, call, BAD, Boundaries::bare, Boundaries::usual, Boundaries::full);
    }

    void finish(int firstPromise, int lastPromise) {
        check.part("all");
        for (int promise = firstPromise; promise <= lastPromise; promise++) {
            check.holds("promise " + promise + " has a test", promises.contains(promise));
        }
        check.finish();
    }

    static NineHands bare() {
        return new NineHands();
    }

    // Some of all: clerks 0 to 2, four lines, an image, text, signed lines, copies.
    static NineHands usual() {
        NineHands x = Check.told("clerk 5 1 0 10;clerk 3 0 1 10;clerk 4 6 1 5;letter 3 2;");
        x.lot(77);
        x.write(0);
        x.keep(0);
        x.write(1);
        x.forge(9, 7);
        x.sign(5, 0, 6, 1);
        x.sign(5, 2, 6, 3);
        x.copy(7);
        x.copy(3);
        x.copy(6);
        x.rate(1, 0);
        Check.typed(x, "clerk 1 0 0 3;");
        return x;
    }

    // As much of all as there can be.
    static NineHands full() {
        NineHands x = Check.told("clerk 5 1 0 10;clerk 3 0 1 9;clerk 4 6 1 5;".repeat(2) + "letter 6 5;");
        for (int k = 0; k < 9; k++) {
            x.write(k % 6);
        }
        x.keep(0);
        x.keep(1);
        for (int k = 0; k < 8; k++) {
            x.sign(k, 4, k + 1, 5);
            x.copy(255 >> k);
        }
        x.rate(3, 0);
        Check.typed(x, "letter 1 1;clerk 8 7 0 0;" + " ".repeat(175));
        return x;
    }

    // All that an object tells; what it holds is used up by that.
    static List<Long> held(NineHands x) {
        List<Long> all = new ArrayList<>();
        addOffice(all, x);
        addLetter(all, x);
        for (int what = 0; what < 6; what++) {
            all.add((long) x.learnt(what));
        }
        for (int k = 0; k < 24; k++) {
            all.add((long) x.came(k / 3, k % 3));
        }
        all.add(x.trace());
        for (int image = 0; image < 2; image++) {
            all.add((long) x.back(image));
            addLetter(all, x);
        }
        all.add((long) x.chancery());
        addOffice(all, x);
        return all;
    }

    private static void addOffice(List<Long> all, NineHands x) {
        for (int what = 0; what < 5; what++) {
            all.add((long) x.count(what));
        }
        for (int k = 0; k < 24; k++) {
            all.add((long) x.clerk(k / 4, k % 4));
        }
        all.add((long) x.line(0, 0));
        all.add((long) x.line(0, 1));
    }

    private static void addLetter(List<Long> all, NineHands x) {
        for (int k = 0; k < 30; k++) {
            all.add((long) x.line(k / 3, k % 3));
        }
        all.add((long) x.lot(0));
    }
}
