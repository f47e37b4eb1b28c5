/** Tests of their own for sentences of the document: each begins with the words it stands for. */
abstract class Sentences {
    static final int MIN = Integer.MIN_VALUE;
    static final int MAX = Integer.MAX_VALUE;
    static final int NONE = -1;
    static final int NONE_SUCH = -2;
    static final int NO_LEAD = -2000000000;
    static final int[] NO_CELLS = {MIN, -256, -16, -1, 256, 257, 512, MAX};
    static final int[] NO_DAYS = {MIN, -1000, -1, 1000, 1001, MAX};
    static final int[] NO_STEPS = {MIN, -120, -1, 120, 121, MAX};
    static final String[] DIRECTIONS = {"north", "east", "south", "west"};
    static final String[] KINDS = {"paper", "grave", "told", "bought", "nothing"};
    private final Doc doc;
    private final Check check;
    private String words = "";
    private int asked;

    Sentences(Doc doc, Check check) {
        this.doc = doc;
        this.check = check;
    }

    abstract void testAll();

    void run() {
        testAll();
        endSentence();
    }

    void says(String section, String sentence) {
        endSentence();
        words = section + ", \"" + sentence + "\"";
        asked = 0;
        check.that("the document says " + words, doc.quote(section, sentence));
    }

    private void endSentence() {
        check.that("there's a test for " + words, words.isEmpty() || asked > 0);
    }

    void due(String call, long got, long want) {
        asked++;
        check.due(words + ": " + call, got, want);
    }

    void due(String call, boolean got, boolean want) {
        asked++;
        check.due(words + ": " + call, got, want);
    }

    /** The LOST at a CELL with food enough, who never walk. */
    static IceSearch lostAt(int cell, int last) {
        IceSearch x = new IceSearch();
        x.lost(cell, 100, 99999, NONE);
        x.set(last, 50);
        return x;
    }

    /** All CELLS are land but these; the LOST are at the first one. */
    static IceSearch seaAt(int last, int... cells) {
        IceSearch x = lostAt(cells[0], last);
        for (int cell = 0; cell < 256; cell++) {
            x.land(cell, true);
        }
        for (int cell : cells) {
            x.land(cell, false);
        }
        return x;
    }

    static void move(IceSearch x, int... moves) {
        x.clear();
        for (int to : moves) {
            x.move(to);
        }
    }

    /** Tells a ROW that stays until the STEP and makes one move on it. */
    static void moveOn(IceSearch x, int step, int to) {
        x.clear();
        for (int i = 1; i < step; i++) {
            x.move(0);
        }
        x.move(to);
    }

    /** All that count() tells, to see that a call did nothing. */
    static String counts(IceSearch x) {
        StringBuilder all = new StringBuilder();
        for (int what = 0; what <= 14; what++) {
            all.append(x.count(what)).append(' ');
        }
        return all.toString();
    }

    void dueNothingDone(IceSearch x, String before) {
        String now = counts(x);
        due("counts " + before + "are now " + now, now.equals(before), true);
    }
}
