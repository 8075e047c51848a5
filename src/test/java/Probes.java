import java.util.ArrayList;
import java.util.List;

/** Whether two runs of calls leave the same bench behind: all that can be asked, done, undone then answers alike. */
final class Probes {
    private static final List<List<LoggedBench.Call>> ROWS = new ArrayList<>();
    /** Asked apart, since a text that is refused tells its fault. */
    private static final List<LoggedBench.Call> FAULT = new ArrayList<>();

    static {
        add(FAULT, "fault", 0);
        add(FAULT, "fault", 1);
        looks();
        tape();
        witnesses();
        sung();
        book();
        told();
        asked();
        doneAndUndone();
    }

    private Probes() {
    }

    private static List<LoggedBench.Call> row() {
        List<LoggedBench.Call> row = new ArrayList<>();
        ROWS.add(row);
        return row;
    }

    private static void add(List<LoggedBench.Call> row, String name, Object... arguments) {
        row.add(new LoggedBench.Call(name, arguments));
    }

    private static void addLooks(List<LoggedBench.Call> row) {
        for (int what = 0; what < 14; what++) {
            add(row, "look", what);
        }
    }

    private static void looks() {
        addLooks(row());
    }

    /** How long the tape is, and what it holds when it is told. */
    private static void tape() {
        List<LoggedBench.Call> length = row();
        add(length, "feed", 0, 0, 0, 0, 0);
        for (int n = 400; n > 380; n--) {
            add(length, "end", n);
        }
        for (int k = 0; k < 3; k++) {
            List<LoggedBench.Call> row = row();
            add(row, "text", k);
            add(row, "fault", 0);
            add(row, "fault", 1);
            addLooks(row);
            add(row, "of", 0, 6);
            add(row, "motive", 0, 0);
        }
    }

    private static void witnesses() {
        List<LoggedBench.Call> row = row();
        for (int w = 0; w < 8; w++) {
            for (int what = 0; what < 16; what++) {
                add(row, "of", w, what);
            }
        }
    }

    private static void sung() {
        List<LoggedBench.Call> testimonies = row();
        List<LoggedBench.Call> bars = row();
        List<LoggedBench.Call> sounds = row();
        for (int i = 0; i < 20; i++) {
            for (int what = 0; what < 8; what++) {
                add(testimonies, "testimony", i, what);
            }
            add(sounds, "duet", i, 0);
            add(sounds, "canon", i, 1);
            add(sounds, "best", 0, 0, i, 0);
            add(sounds, "best", 1, 5, i, 1);
        }
        for (int i = 0; i < 200; i++) {
            add(bars, "bar", i);
        }
    }

    private static void book() {
        for (int from = 0; from < 120; from += 40) {
            List<LoggedBench.Call> row = row();
            for (int i = from; i < from + 40; i++) {
                for (int what = 0; what < 5; what++) {
                    add(row, "book", i, what);
                }
            }
        }
    }

    private static void told() {
        List<LoggedBench.Call> motives = row();
        for (int which = 0; which < 24; which++) {
            for (int what = 0; what < 8; what++) {
                add(motives, "motive", which, what);
            }
        }
        List<LoggedBench.Call> heard = row();
        for (int e = 0; e < 10; e++) {
            for (int what = 0; what < 3; what++) {
                add(heard, "read", e, what);
            }
        }
        add(heard, "heard", 7);
        add(heard, "read", 1, 0);
    }

    private static void asked() {
        List<LoggedBench.Call> singing = row();
        for (int w = 0; w < 8; w++) {
            for (int fact = 0; fact < 6; fact++) {
                add(singing, "keys", w, fact, 1);
                add(singing, "fair", w, fact, 20, 0);
            }
        }
        List<LoggedBench.Call> found = row();
        for (int fact = 0; fact < 6; fact++) {
            add(found, "found", fact);
            for (int value = 0; value < 4; value++) {
                add(found, "weighed", fact, value);
                add(found, "calls", fact, value, 1);
            }
        }
        for (int e = 0; e < 9; e++) {
            add(found, "worlds", e, 0);
        }
        add(found, "worlds", 1, 1);
        add(found, "worlds", 1, 2);
        add(found, "choir", 1);
        add(found, "chord", 0, 1, 2, 3, 20, 0);
        add(found, "chord", 0, 1, 2, 3, 20, 3);
    }

    private static void doneAndUndone() {
        List<LoggedBench.Call> undone = row();
        for (int i = 0; i < 7; i++) {
            add(undone, "undo");
            addLooks(undone);
            add(undone, "of", 0, 3);
            add(undone, "testimony", 0, 6);
        }
        List<LoggedBench.Call> image = row();
        add(image, "image", false);
        addLooks(image);
        for (int what = 0; what < 16; what++) {
            add(image, "of", 0, what);
            add(image, "motive", what, 0);
            add(image, "bar", what);
        }
        List<LoggedBench.Call> trial = row();
        add(trial, "trial");
        addLooks(trial);
        List<LoggedBench.Call> deeds = row();
        for (int w = 0; w < 8; w++) {
            add(deeds, "cross", w);
            for (int fact = 0; fact < 6; fact++) {
                add(deeds, "call", w, fact, 20);
            }
            add(deeds, "strike", w);
        }
        add(deeds, "days", 1);
        addLooks(deeds);
        List<LoggedBench.Call> newcomer = row();
        add(newcomer, "witness", 1, 60, 1);
        addLooks(newcomer);
    }

    /** Holds the bench behind the one run against that behind the other. */
    static void same(List<LoggedBench.Call> without, List<LoggedBench.Call> with, boolean faultToo) {
        for (List<LoggedBench.Call> row : ROWS) {
            same(without, with, row);
        }
        if (faultToo) {
            same(without, with, FAULT);
        }
    }

    private static void same(List<LoggedBench.Call> without, List<LoggedBench.Call> with, List<LoggedBench.Call> row) {
        LoggedBench.Call last = with.get(with.size() - 1);
        Check.due(Sentences.now() + ": room for what is asked behind " + last,
            with.size() + row.size() <= LoggedBench.MOST_CALLS, true);
        SungEvidence one = behind(without);
        SungEvidence other = behind(with);
        for (LoggedBench.Call probe : row) {
            Check.due(Sentences.now() + ": " + probe + " behind " + last, probe.on(other), probe.on(one));
        }
    }

    private static SungEvidence behind(List<LoggedBench.Call> calls) {
        SungEvidence x = new SungEvidence();
        for (LoggedBench.Call call : calls) {
            call.on(x);
        }
        return x;
    }
}
