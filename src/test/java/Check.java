/** What all tests of the project share: the count of wrong answers, and texts fed as a caller would. */
final class Check {
    private static int wrong = 0;
    private static int asked = 0;

    private Check() {
    }

    static void due(String call, long got, long want) {
        asked++;
        if (got != want) {
            wrong++;
            if (wrong <= 40) {
                System.out.println(call + " answered " + got + ", due is " + want);
            }
        }
    }

    static void due(String call, boolean got, boolean want) {
        due(call, got ? 1 : 0, want ? 1 : 0);
    }

    /** Feeds a text behind an empty tape and tells it. */
    static int tell(SungEvidence x, int k, String text) {
        feed(x, text);
        return x.text(k);
    }

    static void feed(SungEvidence x, String text) {
        StringBuilder padded = new StringBuilder(text);
        while (padded.length() % 20 != 0) {
            padded.append(' ');
        }
        for (int i = 0; i < padded.length(); i += 20) {
            x.feed(word(padded, i), word(padded, i + 4), word(padded, i + 8), word(padded, i + 12),
                word(padded, i + 16));
        }
        x.end(text.length());
    }

    private static int word(CharSequence text, int i) {
        return text.charAt(i) << 24 | text.charAt(i + 1) << 16 | text.charAt(i + 2) << 8 | text.charAt(i + 3);
    }

    /** A text that must be refused, with the fault and the place that are due. */
    static void faulty(SungEvidence x, int k, String text, int fault, int place) {
        due("text(" + k + ") of '" + text + "'", tell(x, k, text), SungEvidence.NONE);
        due("fault(0) of '" + text + "'", x.fault(0), fault);
        due("fault(1) of '" + text + "'", x.fault(1), place);
    }

    static void good(SungEvidence x, int k, String text, int count) {
        due("text(" + k + ") of '" + text + "'", tell(x, k, text), count);
        due("fault(0) of '" + text + "'", x.fault(0), 0);
        due("fault(1) of '" + text + "'", x.fault(1), SungEvidence.NONE);
    }

    static void close(String name) {
        System.out.println(name + ": " + asked + " answers, " + wrong + " wrong");
        if (wrong != 0 || asked == 0) {
            System.exit(1);
        }
    }
}
