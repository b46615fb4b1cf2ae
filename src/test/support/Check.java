/** Counts the answers that are not as due, and says to which words of the document each of them belongs. */
final class Check {
    private final String name;
    private String words = "";
    private int wrong = 0;

    Check(String name) {
        this.name = name;
    }

    /** The words of the document that the checks behind this call hold it to. */
    void says(String newWords) {
        words = newWords;
    }

    void due(String call, int got, int want) {
        if (got != want) {
            wrong++;
            String where = words.isEmpty() ? "" : "'" + words + "': ";
            System.out.println(where + call + " answered " + got + ", due is " + want);
        }
    }

    void due(String call, boolean got, boolean want) {
        due(call, got ? 1 : 0, want ? 1 : 0);
    }

    /** All eight parts of a frame: kind, sender, to, group, source, number, bits, life. */
    void dueFrame(String call, GroveWorks x, int wire, int i, int... want) {
        for (int what = 0; what < 8; what++) {
            due(call + ": frame(" + wire + ", " + i + ", " + what + ")", x.frame(wire, i, what), want[what]);
        }
    }

    void end() {
        System.out.println(name + (wrong == 0 ? ": all answers are as due" : ": " + wrong + " answers are not as due"));
        if (wrong != 0) {
            System.exit(1);
        }
    }
}
