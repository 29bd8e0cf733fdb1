/** Counts the answers that are not the ones that are due; the tests end through it. */
final class Check {
    static final int BEYOND = -1000000001;
    static final int FULL = -1000000002;
    static final int KIND = -1000000003;
    static final int NONE = -1000000004;
    static final int STATE = -1000000005;
    static final int MISSING = -1000000006;
    static final int SIZE = -1000000007;

    private int asked;
    private int wrong;

    void due(String call, long got, long want) {
        asked++;
        if (got != want) {
            wrong++;
            System.out.println(call + " answered " + got + ", due is " + want);
        }
    }

    void holds(String what, boolean so) {
        due(what, so ? 1 : 0, 1);
    }

    void end() {
        System.out.println(asked + " answers, " + wrong + " not as due");
        if (wrong != 0) {
            System.exit(1);
        }
    }

    /** Feeds a text byte by byte: how many bytes the tape has then. */
    static int feedText(HandleLoans x, String text) {
        int has = x.count(1);
        for (int i = 0; i < text.length(); i++) {
            has = x.feed(text.charAt(i), 1);
        }
        return has;
    }

    static int readHouse(HandleLoans x, String text) {
        feedText(x, text);
        return x.house();
    }
}
