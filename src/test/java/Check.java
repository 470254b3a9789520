// Counts the answers that are not as due, for one test class.
final class Check {
    private final String name;
    private String part = "";
    private int asked = 0;
    private int wrong = 0;

    Check(String name) {
        this.name = name;
    }

    void part(String newPart) {
        part = newPart;
    }

    void due(String call, long got, long want) {
        asked++;
        if (got != want) {
            wrong++;
            System.out.println(name + ", " + part + ": " + call + " answered " + got + ", due is " + want);
        }
    }

    void holds(String what, boolean so) {
        asked++;
        if (!so) {
            wrong++;
            System.out.println(name + ", " + part + ": " + what + " does not hold");
        }
    }

    int wrong() {
        return wrong;
    }

    int asked() {
        return asked;
    }

    void finish() {
        System.out.println(name + ": " + asked + " answers asked, " + wrong + " not as due");
        if (wrong != 0 || asked == 0) {
            System.exit(1);
        }
    }

    // Types a text of signs 0 to 255 as a caller would: eight bytes a call, the last call with what is left.
    static int typed(NineHands x, String text) {
        int answer = x.count(4);
        for (int at = 0; at < text.length(); at += 8) {
            int n = Math.min(8, text.length() - at);
            answer = x.type(packed(text, at, n), n);
        }
        return answer;
    }

    static long packed(String text, int at, int n) {
        long v = 0;
        for (int k = 0; k < n; k++) {
            v = v << 8 | text.charAt(at + k) & 255;
        }
        return v;
    }

    static NineHands told(String text) {
        NineHands x = new NineHands();
        typed(x, text);
        x.chancery();
        return x;
    }
}
