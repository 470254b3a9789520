// A letter by nine hands: clerks of an office write it line by line, each by his habit or by copying.
// Every row is made by the constructors and used again, so that no call makes an object.
public final class NineHands {
    public static final int BAD = -1, STATE = -2, FULL = -3, NONE = -9;
    public static final int NO = -1000000;

    private static final int NOT_SO_MANY = -5;
    private static final int FAULT_AT_START = -10;
    private static final int MOST_TONE = 9;
    private static final int ALL_MARKS = 7;
    private static final int MOST_LEAN = 8;
    private static final int EVEN_LEAN = 4;
    private static final int TENTHS = 10;
    private static final int FIRST_WARM_TONE = 5;
    private static final int ALL_SLIPS = 255;
    private static final int MOST_CLERKS = 6;
    private static final int MOST_LINES = 10;
    private static final int MOST_SAMPLES = 8;
    private static final int MOST_COPIES = 8;
    private static final int MOST_BYTES = 200;
    private static final int MOST_ORDERS = 720;
    private static final int IMAGES = 2;

    private final Text text = new Text();
    private final Letter letter = new Letter();
    private final Letter[] images = {new Letter(), new Letter()};
    private final Samples samples = new Samples();
    private final Copies copies = new Copies();
    private final Orders orders = new Orders();
    // Two offices that change places: a text with a fault must leave the first one as it was.
    private Office office = new Office();
    private Office draft = new Office();
    private long traced = 0;

    public NineHands() {
        letter.begin(office.firstTone, office.firstMarks);
    }

    // ---- the chancery

    public int type(long v, int n) {
        if (n < 1 || n > 8) {
            return BAD;
        }
        if (n > MOST_BYTES - text.length) {
            return FULL;
        }
        text.append(v, n);
        return text.length;
    }

    public int clear() {
        int had = text.length;
        text.length = 0;
        return had;
    }

    public int chancery() {
        int items = text.readInto(draft);
        if (items < 0) {
            return items;
        }
        Office former = office;
        office = draft;
        draft = former;
        beginAnew();
        return items;
    }

    public int clerk(int c, int what) {
        Clerk clerk = office.find(c);
        if (clerk == null) {
            return BAD;
        }
        switch (what) {
            case 0: return clerk.lean;
            case 1: return clerk.sets;
            case 2: return clerk.drops;
            case 3: return clerk.keeps;
            default: return BAD;
        }
    }

    public int line(int i, int what) {
        if (i < 0 || i >= letter.lines) {
            return BAD;
        }
        switch (what) {
            case 0: return letter.tones[i];
            case 1: return letter.marks[i];
            case 2: return letter.writers[i];
            default: return BAD;
        }
    }

    public int makes(int c, int tone, int marks) {
        Clerk clerk = office.find(c);
        if (clerk == null || !isLine(tone, marks)) {
            return BAD;
        }
        return told(clerk.toneBehind(tone), clerk.marksBehind(marks));
    }

    // ---- a letter

    public int write(int c) {
        Clerk clerk = office.find(c);
        if (clerk == null) {
            return BAD;
        }
        if (letter.isFull()) {
            return FULL;
        }
        int tone = letter.lastTone();
        int marks = letter.lastMarks();
        if (letter.draw() < clerk.keeps) {
            tone = clerk.toneBehind(tone);
            marks = clerk.marksBehind(marks);
        }
        letter.add(tone, marks, c);
        return told(tone, marks);
    }

    public int forge(int tone, int marks) {
        if (!isLine(tone, marks)) {
            return BAD;
        }
        if (letter.isFull()) {
            return FULL;
        }
        letter.add(tone, marks, NONE);
        return letter.lines;
    }

    public int undo() {
        if (letter.lines <= 1) {
            return STATE;
        }
        letter.lines--;
        return letter.lines;
    }

    public int lot(int v) {
        int was = letter.luck;
        letter.luck = v;
        return was;
    }

    public int turned() {
        boolean warmAtFirst = isWarm(letter.tones[0]);
        for (int i = 1; i < letter.lines; i++) {
            if (isWarm(letter.tones[i]) != warmAtFirst) {
                return i;
            }
        }
        return NONE;
    }

    // ---- who wrote it

    public int who(int i, int what) {
        if (!hasLineAhead(i)) {
            return BAD;
        }
        switch (what) {
            case 0: return writersOf(i);
            case 1: return likeliestOf(i);
            default: return BAD;
        }
    }

    public int rows() {
        int rows = 1;
        for (int i = 1; i < letter.lines; i++) {
            rows *= Integer.bitCount(writersOf(i));
        }
        return rows;
    }

    public int odds(int c, int i, int what) {
        if (office.find(c) == null || !hasLineAhead(i) || what < 0 || what > 1) {
            return BAD;
        }
        int all = waysOfAll(i);
        if (all <= 0) {
            return STATE;
        }
        int his = waysOf(c, i);
        int shared = sharedDivisor(all, his);
        return (what == 0 ? his : all) / shared;
    }

    // ---- orders

    public int order(int clerks, int tone, int i) {
        if (!office.hasAll(clerks) || !isTone(tone) || i < -1) {
            return BAD;
        }
        orders.seek(office, clerks, letter.lastTone(), tone, false);
        return orders.answer(i);
    }

    public int drift(int clerks, int i) {
        if (!office.hasAll(clerks) || i < -1) {
            return BAD;
        }
        orders.seek(office, clerks, letter.lastTone(), letter.lastTone(), true);
        return orders.answer(i);
    }

    // ---- habits learnt

    public int sign(int tone, int marks, int thenTone, int thenMarks) {
        if (!isLine(tone, marks) || !isLine(thenTone, thenMarks)) {
            return BAD;
        }
        if (samples.isFull()) {
            return FULL;
        }
        samples.add(tone, marks, thenTone, thenMarks);
        return samples.count;
    }

    public int learnt(int what) {
        if (what < 0 || what > 5) {
            return BAD;
        }
        if (!samples.fitOneHabit()) {
            return NONE;
        }
        switch (what) {
            case 0: return samples.leastLean();
            case 1: return samples.greatestLean();
            case 2: return samples.mustSet();
            case 3: return samples.mustDrop();
            case 4: return samples.maySet();
            default: return samples.mayDrop();
        }
    }

    public int forget() {
        int had = samples.count;
        samples.count = 0;
        return had;
    }

    // ---- copies

    public int copy(int slips) {
        if (slips < 0 || slips > ALL_SLIPS) {
            return BAD;
        }
        if (copies.isFull()) {
            return FULL;
        }
        copies.add(slips);
        return copies.count - 1;
    }

    public int came(int k, int what) {
        if (k < 0 || k >= copies.count) {
            return BAD;
        }
        switch (what) {
            case 0: return copies.slips[k];
            case 1: return copies.originOf(k);
            case 2: return copies.depthOf(k);
            default: return BAD;
        }
    }

    public int firsts() {
        int bits = 0;
        for (int k = 0; k < copies.count; k++) {
            if (copies.originOf(k) == NONE) {
                bits |= 1 << k;
            }
        }
        return bits;
    }

    public int burn() {
        int had = copies.count;
        copies.count = 0;
        return had;
    }

    // ---- kinds, images

    public int rate(int kind, int c) {
        Clerk clerk = office.find(c);
        if (clerk == null) {
            return NO;
        }
        switch (kind) {
            case 0: return asClerk(clerk);
            case 1: return asTwin(clerk);
            case 2: return asMocker(clerk);
            case 3: return asConstant(clerk);
            case 4: return asLeft(clerk, c);
            case 5: return asHasty(clerk);
            default: return NO;
        }
    }

    public int keep(int image) {
        if (image < 0 || image >= IMAGES) {
            return BAD;
        }
        images[image].become(letter);
        return letter.lines;
    }

    public int back(int image) {
        if (image < 0 || image >= IMAGES) {
            return BAD;
        }
        if (images[image].isBlank()) {
            return STATE;
        }
        letter.become(images[image]);
        return letter.lines;
    }

    public int count(int what) {
        switch (what) {
            case 0: return office.count;
            case 1: return letter.lines;
            case 2: return samples.count;
            case 3: return copies.count;
            case 4: return text.length;
            default: return BAD;
        }
    }

    public long trace() {
        return traced;
    }

    // ---- what the calls above share

    private void beginAnew() {
        text.length = 0;
        letter.begin(office.firstTone, office.firstMarks);
        samples.count = 0;
        copies.count = 0;
        for (int k = 0; k < IMAGES; k++) {
            images[k].lines = 0;
        }
    }

    private static boolean isTone(int tone) {
        return tone >= 0 && tone <= MOST_TONE;
    }

    private static boolean isLine(int tone, int marks) {
        return isTone(tone) && marks >= 0 && marks <= ALL_MARKS;
    }

    private static boolean isWarm(int tone) {
        return tone >= FIRST_WARM_TONE;
    }

    private static int leant(int tone, int lean) {
        return Math.max(0, Math.min(MOST_TONE, tone + lean - EVEN_LEAN));
    }

    private static int told(int tone, int marks) {
        return tone + 10 * marks;
    }

    private boolean hasLineAhead(int i) {
        return i >= 1 && i < letter.lines;
    }

    private int waysOf(int c, int i) {
        Clerk clerk = office.find(c);
        if (clerk == null || !hasLineAhead(i)) {
            return 0;
        }
        int tone = letter.tones[i - 1];
        int marks = letter.marks[i - 1];
        return clerk.waysTo(tone, marks, letter.tones[i], letter.marks[i]);
    }

    private int waysOfAll(int i) {
        int all = 0;
        for (int c = 0; c < office.count; c++) {
            all += waysOf(c, i);
        }
        return all;
    }

    private int writersOf(int i) {
        int bits = 0;
        for (int c = 0; c < office.count; c++) {
            if (waysOf(c, i) > 0) {
                bits |= 1 << c;
            }
        }
        return bits;
    }

    private int likeliestOf(int i) {
        int likeliest = NONE;
        int most = 0;
        for (int c = 0; c < office.count; c++) {
            int ways = waysOf(c, i);
            if (ways > most) {
                most = ways;
                likeliest = c;
            }
        }
        return likeliest;
    }

    // Of a above 0 and b from 0 to a: the answer is at least 1, so that it may divide.
    private static int sharedDivisor(int a, int b) {
        int shared = 1;
        for (int d = 2; d <= a; d++) {
            if (a % d == 0 && b % d == 0) {
                shared = d;
            }
        }
        return shared;
    }

    private int asClerk(Clerk clerk) {
        traced += 1;
        return clerk.lean - EVEN_LEAN;
    }

    private int asTwin(Clerk clerk) {
        traced += 10;
        return asClerk(clerk) + Integer.bitCount(clerk.sets);
    }

    private int asMocker(Clerk clerk) {
        traced += 100;
        return asClerk(clerk) - Integer.bitCount(clerk.drops);
    }

    private int asConstant(Clerk clerk) {
        traced += 1000;
        return 2 * asTwin(clerk);
    }

    private int asLeft(Clerk clerk, int c) {
        traced += 10000;
        return asMocker(clerk) + c;
    }

    private int asHasty(Clerk clerk) {
        traced += 100000;
        return asClerk(clerk) + TENTHS - clerk.keeps;
    }

    private static final class Clerk {
        private int lean;
        private int sets;
        private int drops;
        private int keeps;

        int toneBehind(int tone) {
            return leant(tone, lean);
        }

        int marksBehind(int marks) {
            return (marks | sets) & ~drops;
        }

        int waysTo(int tone, int marks, int thenTone, int thenMarks) {
            int ways = 0;
            if (toneBehind(tone) == thenTone && marksBehind(marks) == thenMarks) {
                ways += keeps;
            }
            if (tone == thenTone && marks == thenMarks) {
                ways += TENTHS - keeps;
            }
            return ways;
        }
    }

    // What one text tells: the clerks and the first line.
    private static final class Office {
        private final Clerk[] clerks = new Clerk[MOST_CLERKS];
        private int count;
        private boolean letterTold;
        private int firstTone;
        private int firstMarks;

        Office() {
            for (int c = 0; c < MOST_CLERKS; c++) {
                clerks[c] = new Clerk();
            }
            begin();
        }

        private void begin() {
            count = 0;
            letterTold = false;
            firstTone = FIRST_WARM_TONE;
            firstMarks = 0;
        }

        Clerk find(int c) {
            return c >= 0 && c < count ? clerks[c] : null;
        }

        boolean hasAll(int bits) {
            return bits >= 0 && bits < 1 << count;
        }

        boolean isFull() {
            return count >= MOST_CLERKS;
        }

        void add(int lean, int sets, int drops, int keeps) {
            if (isFull()) {
                return;
            }
            Clerk clerk = clerks[count];
            clerk.lean = lean;
            clerk.sets = sets;
            clerk.drops = drops;
            clerk.keeps = keeps;
            count++;
        }
    }

    // The bytes typed, and their reading token by token.
    private static final class Text {
        private static final int END = 0;
        private static final int WORD = 1;
        private static final int NUMBER = 2;
        private static final int SEMICOLON = 3;
        private static final int UNKNOWN = 4;

        private final byte[] bytes = new byte[MOST_BYTES];
        private int length = 0;
        private int next = 0;
        private int start = 0;
        private int number = 0;

        void append(long v, int n) {
            for (int k = n - 1; k >= 0 && length < MOST_BYTES; k--) {
                bytes[length] = (byte) (v >>> (8 * k));
                length++;
            }
        }

        // How many items, or what chancery() answers to a fault: nothing is taken behind one,
        // so that the fault is always at the start of the token taken last.
        int readInto(Office draft) {
            draft.begin();
            next = 0;
            int items = 0;
            int sort = take();
            while (sort != END && items < MOST_BYTES) {
                if (sort != WORD || !readItem(draft)) {
                    return FAULT_AT_START - start;
                }
                items++;
                sort = take();
            }
            return items;
        }

        private boolean readItem(Office draft) {
            if (tookWord("clerk")) {
                return !draft.isFull() && readClerk(draft);
            }
            return tookWord("letter") && !draft.letterTold && readFirstLine(draft);
        }

        private boolean readClerk(Office draft) {
            if (!takeNumber(MOST_LEAN)) {
                return false;
            }
            int lean = number;
            if (!takeNumber(ALL_MARKS)) {
                return false;
            }
            int sets = number;
            if (!takeNumber(ALL_MARKS) || (number & sets) != 0) {
                return false;
            }
            int drops = number;
            if (!takeNumber(TENTHS)) {
                return false;
            }
            draft.add(lean, sets, drops, number);
            return take() == SEMICOLON;
        }

        private boolean readFirstLine(Office draft) {
            if (!takeNumber(MOST_TONE)) {
                return false;
            }
            draft.firstTone = number;
            if (!takeNumber(ALL_MARKS)) {
                return false;
            }
            draft.firstMarks = number;
            draft.letterTold = true;
            return take() == SEMICOLON;
        }

        // A row of more than two digits is not read at all: it could wrap to a number that fits.
        private boolean takeNumber(int most) {
            if (take() != NUMBER || next - start > 2) {
                return false;
            }
            number = 0;
            for (int k = start; k < next; k++) {
                number = 10 * number + bytes[k] - '0';
            }
            boolean zeroAhead = next - start == 2 && number < 10;
            return !zeroAhead && number <= most;
        }

        private int take() {
            while (next < length && bytes[next] == ' ') {
                next++;
            }
            start = next;
            if (next >= length) {
                return END;
            }
            int sort = sortOf(bytes[next]);
            next++;
            if (sort == WORD || sort == NUMBER) {
                while (next < length && sortOf(bytes[next]) == sort) {
                    next++;
                }
            }
            return sort;
        }

        private static int sortOf(int sign) {
            if (sign >= 'a' && sign <= 'z') {
                return WORD;
            }
            if (sign >= '0' && sign <= '9') {
                return NUMBER;
            }
            return sign == ';' ? SEMICOLON : UNKNOWN;
        }

        private boolean tookWord(String word) {
            if (next - start != word.length()) {
                return false;
            }
            for (int k = 0; k < word.length(); k++) {
                if (bytes[start + k] != word.charAt(k)) {
                    return false;
                }
            }
            return true;
        }
    }

    // What an image keeps, too: the lines and the lot.
    private static final class Letter {
        private final int[] tones = new int[MOST_LINES];
        private final int[] marks = new int[MOST_LINES];
        private final int[] writers = new int[MOST_LINES];
        private int lines = 0;
        private int luck = 1;

        void begin(int tone, int firstMarks) {
            lines = 0;
            add(tone, firstMarks, NONE);
        }

        void add(int tone, int newMarks, int writer) {
            if (isFull()) {
                return;
            }
            tones[lines] = tone;
            marks[lines] = newMarks;
            writers[lines] = writer;
            lines++;
        }

        // A letter that has begun keeps its first line: only an image that keeps nothing is blank.
        boolean isBlank() {
            return lines <= 0;
        }

        boolean isFull() {
            return lines >= MOST_LINES;
        }

        int lastTone() {
            return isBlank() ? 0 : tones[lines - 1];
        }

        int lastMarks() {
            return isBlank() ? 0 : marks[lines - 1];
        }

        int draw() {
            luck = luck * 1103515245 + 12345;
            return (luck >>> 16) % 10;
        }

        void become(Letter other) {
            System.arraycopy(other.tones, 0, tones, 0, MOST_LINES);
            System.arraycopy(other.marks, 0, marks, 0, MOST_LINES);
            System.arraycopy(other.writers, 0, writers, 0, MOST_LINES);
            lines = other.lines;
            luck = other.luck;
        }
    }

    // Goes through the orders of some clerks by numbers, and keeps the first that strays least.
    private static final class Orders {
        private final int[] row = new int[MOST_CLERKS];
        private final int[] best = new int[MOST_CLERKS];
        private int size = 0;
        private int least = 0;

        void seek(Office office, int clerks, int from, int target, boolean anywhere) {
            lineUp(clerks);
            least = stray(office, from, target, anywhere);
            keepRow();
            for (int n = 1; n < MOST_ORDERS && least > 0 && step(); n++) {
                int far = stray(office, from, target, anywhere);
                if (far < least) {
                    least = far;
                    keepRow();
                }
            }
        }

        int answer(int i) {
            if (i < 0) {
                return least;
            }
            return i < size ? best[i] : NOT_SO_MANY;
        }

        private void lineUp(int clerks) {
            size = 0;
            for (int c = 0; c < MOST_CLERKS; c++) {
                if ((clerks >> c & 1) != 0) {
                    row[size] = c;
                    size++;
                }
            }
        }

        private void keepRow() {
            System.arraycopy(row, 0, best, 0, size);
        }

        private int stray(Office office, int from, int target, boolean anywhere) {
            int tone = from;
            int most = 0;
            for (int k = 0; k < size; k++) {
                Clerk clerk = office.find(row[k]);
                if (clerk != null) {
                    tone = clerk.toneBehind(tone);
                }
                most = Math.max(most, Math.abs(tone - target));
            }
            return anywhere ? most : Math.abs(tone - target);
        }

        // To the next order by numbers; false if this is the last one.
        private boolean step() {
            int low = size - 2;
            while (low >= 0 && row[low] > row[low + 1]) {
                low--;
            }
            if (low < 0) {
                return false;
            }
            int high = size - 1;
            while (high > low && row[high] < row[low]) {
                high--;
            }
            swap(low, high);
            for (int a = low + 1, b = size - 1; a < b; a++, b--) {
                swap(a, b);
            }
            return true;
        }

        private void swap(int a, int b) {
            int was = row[a];
            row[a] = row[b];
            row[b] = was;
        }
    }

    // Signed lines. What may be done to a mark is told for each mark alone: no two depend on each other.
    private static final class Samples {
        private final int[] tones = new int[MOST_SAMPLES];
        private final int[] marks = new int[MOST_SAMPLES];
        private final int[] thenTones = new int[MOST_SAMPLES];
        private final int[] thenMarks = new int[MOST_SAMPLES];
        private int count = 0;

        boolean isFull() {
            return count >= MOST_SAMPLES;
        }

        void add(int tone, int mark, int thenTone, int thenMark) {
            if (isFull()) {
                return;
            }
            tones[count] = tone;
            marks[count] = mark;
            thenTones[count] = thenTone;
            thenMarks[count] = thenMark;
            count++;
        }

        int leastLean() {
            for (int lean = 0; lean <= MOST_LEAN; lean++) {
                if (leanFits(lean)) {
                    return lean;
                }
            }
            return NONE;
        }

        int greatestLean() {
            for (int lean = MOST_LEAN; lean >= 0; lean--) {
                if (leanFits(lean)) {
                    return lean;
                }
            }
            return NONE;
        }

        private boolean leanFits(int lean) {
            for (int k = 0; k < count; k++) {
                if (leant(tones[k], lean) != thenTones[k]) {
                    return false;
                }
            }
            return true;
        }

        boolean fitOneHabit() {
            return leastLean() != NONE && (maySet() | mayDrop() | mayLeave()) == ALL_MARKS;
        }

        int mustSet() {
            return maySet() & ~mayDrop() & ~mayLeave();
        }

        int mustDrop() {
            return mayDrop() & ~maySet() & ~mayLeave();
        }

        int maySet() {
            int may = ALL_MARKS;
            for (int k = 0; k < count; k++) {
                may &= thenMarks[k];
            }
            return may;
        }

        int mayDrop() {
            int may = ALL_MARKS;
            for (int k = 0; k < count; k++) {
                may &= ~thenMarks[k];
            }
            return may;
        }

        private int mayLeave() {
            int may = ALL_MARKS;
            for (int k = 0; k < count; k++) {
                may &= ~(marks[k] ^ thenMarks[k]);
            }
            return may;
        }
    }

    private static final class Copies {
        private final int[] slips = new int[MOST_COPIES];
        private int count = 0;

        boolean isFull() {
            return count >= MOST_COPIES;
        }

        void add(int newSlips) {
            if (isFull()) {
                return;
            }
            slips[count] = newSlips;
            count++;
        }

        int originOf(int k) {
            int origin = NONE;
            int most = -1;
            for (int j = 0; j < count; j++) {
                if (canComeOf(k, j) && Integer.bitCount(slips[j]) > most) {
                    most = Integer.bitCount(slips[j]);
                    origin = j;
                }
            }
            return origin;
        }

        int depthOf(int k) {
            int depth = 0;
            int ahead = originOf(k);
            while (ahead != NONE && depth < MOST_COPIES) {
                depth++;
                ahead = originOf(ahead);
            }
            return depth;
        }

        private boolean canComeOf(int k, int j) {
            if (j == k || (slips[j] & ~slips[k]) != 0) {
                return false;
            }
            return slips[j] != slips[k] || j < k;
        }
    }
}
