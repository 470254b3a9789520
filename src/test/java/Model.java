import java.util.ArrayList;
import java.util.List;
import java.util.TreeSet;
import java.util.regex.Matcher;
import java.util.regex.Pattern;

// The document once more, written with the whole Java library and by trying all that can be:
// whatever NineHands answers in another way is a fault of one of the two.
final class Model {
    private static final int BAD = -1, STATE = -2, FULL = -3, NONE = -9, NO = -1000000;
    private static final Pattern TOKEN = Pattern.compile("[a-z]+|[0-9]+|;");

    record Clerk(int lean, int sets, int drops, int keeps) {
        Line habit(Line line) {
            int tone = Math.min(9, Math.max(0, line.tone + lean - 4));
            return new Line(tone, (line.marks | sets) & (7 - drops), NONE);
        }

        int ways(Line from, Line to) {
            Line made = habit(from);
            int ways = made.tone == to.tone && made.marks == to.marks ? keeps : 0;
            return ways + (from.tone == to.tone && from.marks == to.marks ? 10 - keeps : 0);
        }
    }

    record Line(int tone, int marks, int writer) {
    }

    record Signed(Line from, Line to) {
    }

    record Image(List<Line> lines, int lot) {
    }

    private String text = "";
    private List<Clerk> clerks = new ArrayList<>();
    private List<Line> lines = new ArrayList<>(List.of(new Line(5, 0, NONE)));
    private final List<Signed> signed = new ArrayList<>();
    private final List<Integer> copies = new ArrayList<>();
    private final Image[] images = new Image[2];
    private int lot = 1;
    private long trace = 0;

    int type(long v, int n) {
        if (n < 1 || n > 8) {
            return BAD;
        }
        if (text.length() + n > 200) {
            return FULL;
        }
        for (int k = n - 1; k >= 0; k--) {
            text += (char) (v >> 8 * k & 255);
        }
        return text.length();
    }

    int clear() {
        int had = text.length();
        text = "";
        return had;
    }

    // A grammar as a text of signs: after each token only what 'may' tells can stand.
    int chancery() {
        List<Clerk> newClerks = new ArrayList<>();
        Line first = null;
        List<Integer> numbers = new ArrayList<>();
        String item = "";
        int items = 0;
        Matcher matcher = TOKEN.matcher(text);
        for (int at = 0; ; at = matcher.end()) {
            while (at < text.length() && text.charAt(at) == 32) {
                at++;
            }
            if (at == text.length() && item.isEmpty()) {
                break;
            }
            if (at == text.length() || !matcher.region(at, text.length()).lookingAt()) {
                return -10 - at;
            }
            String token = matcher.group();
            if (item.isEmpty()) {
                boolean can = token.equals("clerk") && newClerks.size() < 6 || token.equals("letter") && first == null;
                if (!can) {
                    return -10 - at;
                }
                item = token;
            } else if (numbers.size() < (item.equals("clerk") ? 4 : 2)) {
                if (!numberFits(item, numbers, token)) {
                    return -10 - at;
                }
                numbers.add(Integer.valueOf(token));
            } else {
                if (!token.equals(";")) {
                    return -10 - at;
                }
                if (item.equals("clerk")) {
                    newClerks.add(new Clerk(numbers.get(0), numbers.get(1), numbers.get(2), numbers.get(3)));
                } else {
                    first = new Line(numbers.get(0), numbers.get(1), NONE);
                }
                numbers.clear();
                item = "";
                items++;
            }
        }
        clerks = newClerks;
        lines = new ArrayList<>(List.of(first == null ? new Line(5, 0, NONE) : first));
        signed.clear();
        copies.clear();
        images[0] = null;
        images[1] = null;
        text = "";
        return items;
    }

    private static boolean numberFits(String item, List<Integer> numbers, String token) {
        if (!token.matches("0|[1-9][0-9]?")) {
            return false;
        }
        int number = Integer.parseInt(token);
        int place = numbers.size();
        int[] most = item.equals("clerk") ? new int[] {8, 7, 7, 10} : new int[] {9, 7};
        boolean clash = item.equals("clerk") && place == 2 && (number & numbers.get(1)) != 0;
        return number <= most[place] && !clash;
    }

    int clerk(int c, int what) {
        if (c < 0 || c >= clerks.size() || what < 0 || what > 3) {
            return BAD;
        }
        Clerk clerk = clerks.get(c);
        return new int[] {clerk.lean, clerk.sets, clerk.drops, clerk.keeps}[what];
    }

    int line(int i, int what) {
        if (i < 0 || i >= lines.size() || what < 0 || what > 2) {
            return BAD;
        }
        Line line = lines.get(i);
        return new int[] {line.tone, line.marks, line.writer}[what];
    }

    private static boolean wrongLine(int tone, int marks) {
        return tone < 0 || tone > 9 || marks < 0 || marks > 7;
    }

    private Line last() {
        return lines.get(lines.size() - 1);
    }

    int makes(int c, int tone, int marks) {
        if (c < 0 || c >= clerks.size() || wrongLine(tone, marks)) {
            return BAD;
        }
        Line made = clerks.get(c).habit(new Line(tone, marks, NONE));
        return made.tone + 10 * made.marks;
    }

    int write(int c) {
        if (c < 0 || c >= clerks.size()) {
            return BAD;
        }
        if (lines.size() > 9) {
            return FULL;
        }
        lot = (int) (lot * 1103515245L + 12345L);
        int draw = (int) (((lot & 0xFFFFFFFFL) / 65536) % 10);
        Line made = draw < clerks.get(c).keeps ? clerks.get(c).habit(last()) : last();
        lines.add(new Line(made.tone, made.marks, c));
        return made.tone + 10 * made.marks;
    }

    int forge(int tone, int marks) {
        if (wrongLine(tone, marks)) {
            return BAD;
        }
        if (lines.size() > 9) {
            return FULL;
        }
        lines.add(new Line(tone, marks, NONE));
        return lines.size();
    }

    int undo() {
        if (lines.size() == 1) {
            return STATE;
        }
        lines.remove(lines.size() - 1);
        return lines.size();
    }

    int lot(int v) {
        int was = lot;
        lot = v;
        return was;
    }

    int turned() {
        String row = "";
        for (Line line : lines) {
            row += line.tone / 5;
        }
        int place = row.indexOf(row.charAt(0) == '0' ? '1' : '0');
        return place < 0 ? NONE : place;
    }

    private List<Integer> allWays(int i) {
        List<Integer> ways = new ArrayList<>();
        for (Clerk clerk : clerks) {
            ways.add(clerk.ways(lines.get(i - 1), lines.get(i)));
        }
        return ways;
    }

    int who(int i, int what) {
        if (i < 1 || i >= lines.size() || what < 0 || what > 1) {
            return BAD;
        }
        int bits = 0;
        List<Integer> ways = allWays(i);
        for (int c = 0; c < ways.size(); c++) {
            bits += ways.get(c) > 0 ? 1 << c : 0;
        }
        if (what == 0) {
            return bits;
        }
        for (int most = 10; most > 0; most--) {
            if (ways.contains(most)) {
                return ways.indexOf(most);
            }
        }
        return NONE;
    }

    private int rowsFrom(int i) {
        if (i == lines.size()) {
            return 1;
        }
        int rest = rowsFrom(i + 1);
        int rows = 0;
        for (int ways : allWays(i)) {
            rows += ways > 0 ? rest : 0;
        }
        return rows;
    }

    int rows() {
        return rowsFrom(1);
    }

    int odds(int c, int i, int what) {
        if (c < 0 || c >= clerks.size() || i < 1 || i >= lines.size() || what < 0 || what > 1) {
            return BAD;
        }
        int sum = 0;
        for (int ways : allWays(i)) {
            sum += ways;
        }
        if (sum == 0) {
            return STATE;
        }
        // The least lower number with which the fraction can be told.
        int his = allWays(i).get(c);
        int lower = 1;
        while (his * lower % sum != 0) {
            lower++;
        }
        return what == 0 ? his * lower / sum : lower;
    }

    private static void allOrders(List<Integer> rest, List<Integer> ahead, List<List<Integer>> orders) {
        if (rest.isEmpty()) {
            orders.add(List.copyOf(ahead));
        }
        for (Integer c : rest) {
            List<Integer> others = new ArrayList<>(rest);
            others.remove(c);
            List<Integer> longer = new ArrayList<>(ahead);
            longer.add(c);
            allOrders(others, longer, orders);
        }
    }

    private int bestOrder(int bits, int target, boolean drift, int i) {
        List<Integer> numbers = new ArrayList<>();
        for (int c = 0; c < clerks.size(); c++) {
            if ((bits & 1 << c) != 0) {
                numbers.add(c);
            }
        }
        List<List<Integer>> orders = new ArrayList<>();
        allOrders(numbers, new ArrayList<>(), orders);
        int least = 100;
        List<Integer> best = null;
        for (List<Integer> one : orders) {
            Line line = last();
            TreeSet<Integer> ways = new TreeSet<>(List.of(0));
            for (int c : one) {
                line = clerks.get(c).habit(line);
                ways.add(Math.abs(line.tone - target));
            }
            int far = drift ? ways.last() : Math.abs(line.tone - target);
            if (far < least) {
                least = far;
                best = one;
            }
        }
        return i == -1 ? least : i < best.size() ? best.get(i) : -5;
    }

    int order(int bits, int tone, int i) {
        if (bits < 0 || bits >= 1 << clerks.size() || tone < 0 || tone > 9 || i < -1) {
            return BAD;
        }
        return bestOrder(bits, tone, false, i);
    }

    int drift(int bits, int i) {
        if (bits < 0 || bits >= 1 << clerks.size() || i < -1) {
            return BAD;
        }
        return bestOrder(bits, last().tone, true, i);
    }

    int sign(int tone, int marks, int thenTone, int thenMarks) {
        if (wrongLine(tone, marks) || wrongLine(thenTone, thenMarks)) {
            return BAD;
        }
        if (signed.size() == 8) {
            return FULL;
        }
        signed.add(new Signed(new Line(tone, marks, NONE), new Line(thenTone, thenMarks, NONE)));
        return signed.size();
    }

    private boolean fits(Clerk clerk) {
        for (Signed one : signed) {
            if (!clerk.habit(one.from).equals(one.to)) {
                return false;
            }
        }
        return true;
    }

    int learnt(int what) {
        if (what < 0 || what > 5) {
            return BAD;
        }
        int least = 9, most = -1, mustSet = 7, mustDrop = 7, maySet = 0, mayDrop = 0;
        for (int code = 0; code < 9 * 64; code++) {
            Clerk clerk = new Clerk(code / 64, code / 8 % 8, code % 8, 0);
            if ((clerk.sets & clerk.drops) == 0 && fits(clerk)) {
                least = Math.min(least, clerk.lean);
                most = Math.max(most, clerk.lean);
                mustSet &= clerk.sets;
                mustDrop &= clerk.drops;
                maySet |= clerk.sets;
                mayDrop |= clerk.drops;
            }
        }
        return most < 0 ? NONE : new int[] {least, most, mustSet, mustDrop, maySet, mayDrop}[what];
    }

    int forget() {
        int had = signed.size();
        signed.clear();
        return had;
    }

    int copy(int slips) {
        if (slips < 0 || slips > 255) {
            return BAD;
        }
        if (copies.size() == 8) {
            return FULL;
        }
        copies.add(slips);
        return copies.size() - 1;
    }

    private int origin(int k) {
        for (int size = 8; size >= 0; size--) {
            for (int j = 0; j < copies.size(); j++) {
                int slips = copies.get(j);
                boolean less = (slips | copies.get(k)) == copies.get(k) && slips != copies.get(k);
                boolean same = slips == copies.get(k) && j < k;
                if (Integer.bitCount(slips) == size && (less || same)) {
                    return j;
                }
            }
        }
        return NONE;
    }

    private int depth(int k) {
        return origin(k) == NONE ? 0 : 1 + depth(origin(k));
    }

    int came(int k, int what) {
        if (k < 0 || k >= copies.size() || what < 0 || what > 2) {
            return BAD;
        }
        return what == 0 ? copies.get(k) : what == 1 ? origin(k) : depth(k);
    }

    int firsts() {
        int bits = 0;
        for (int k = 0; k < copies.size(); k++) {
            bits += depth(k) == 0 ? 1 << k : 0;
        }
        return bits;
    }

    int burn() {
        int had = copies.size();
        copies.clear();
        return had;
    }

    private int rated(int kind, int c) {
        int[] above = {-1, 0, 0, 1, 2, 0};
        int[] added = {1, 10, 100, 1000, 10000, 100000};
        Clerk clerk = clerks.get(c);
        trace += added[kind];
        int up = kind == 0 ? 0 : rated(above[kind], c);
        int[] rates = {
            clerk.lean - 4, up + Integer.bitCount(clerk.sets), up - Integer.bitCount(clerk.drops),
            2 * up, up + c, up + 10 - clerk.keeps
        };
        return rates[kind];
    }

    int rate(int kind, int c) {
        return kind < 0 || kind > 5 || c < 0 || c >= clerks.size() ? NO : rated(kind, c);
    }

    int keep(int image) {
        if (image < 0 || image > 1) {
            return BAD;
        }
        images[image] = new Image(List.copyOf(lines), lot);
        return lines.size();
    }

    int back(int image) {
        if (image < 0 || image > 1) {
            return BAD;
        }
        if (images[image] == null) {
            return STATE;
        }
        lines = new ArrayList<>(images[image].lines);
        lot = images[image].lot;
        return lines.size();
    }

    int count(int what) {
        if (what < 0 || what > 4) {
            return BAD;
        }
        return new int[] {clerks.size(), lines.size(), signed.size(), copies.size(), text.length()}[what];
    }

    long trace() {
        return trace;
    }
}
