import java.lang.reflect.InvocationTargetException;
import java.lang.reflect.Method;
import java.util.ArrayList;
import java.util.HashMap;
import java.util.List;
import java.util.Map;

/** A bench that writes down each call with its answer, so that the run can be made again on a new object. */
final class LoggedBench {
    static final int MOST_CALLS = 512;
    private static final Map<String, Method> FACE = new HashMap<>();

    static {
        for (Method m : SungEvidence.class.getDeclaredMethods()) {
            FACE.put(m.getName(), m);
        }
    }

    private final SungEvidence bench = new SungEvidence();
    private final List<Call> calls = new ArrayList<>();
    private final List<Integer> answers = new ArrayList<>();

    LoggedBench() {
        Sentences.made(this);
    }

    /** One call of the face; a boolean it answers counts 1 or 0. */
    record Call(String name, Object... arguments) {
        int on(SungEvidence x) {
            try {
                Object answer = FACE.get(name).invoke(x, arguments);
                return answer instanceof Boolean b ? (b ? 1 : 0) : (Integer) answer;
            } catch (InvocationTargetException | IllegalAccessException e) {
                throw new IllegalStateException(this + " can't be made", e);
            }
        }

        @Override
        public String toString() {
            StringBuilder text = new StringBuilder(name).append('(');
            for (int i = 0; i < arguments.length; i++) {
                text.append(i == 0 ? "" : ", ").append(arguments[i]);
            }
            return text.append(')').toString();
        }
    }

    /** What the latest call answered, to be held against what is due. */
    final class Answer {
        private final int answer;
        private final int which;

        private Answer(int answer) {
            this.answer = answer;
            this.which = calls.size() - 1;
        }

        int value() {
            return answer;
        }

        void is(int want) {
            Check.due(Sentences.now() + ": call " + (which + 1) + " " + calls.get(which), answer, want);
        }

        void is(boolean want) {
            is(want ? 1 : 0);
        }

        /** Refused with that answer, and all goes on as if the call had not been made. */
        void isRefused(int want) {
            is(want);
            changesNothing();
        }

        void isRefused() {
            isRefused(0);
        }

        /** Must be asked ahead of the next call. */
        void changesNothing() {
            Probes.same(calls.subList(0, which), calls.subList(0, which + 1), true);
        }
    }

    private Answer ask(String name, Object... arguments) {
        Call call = new Call(name, arguments);
        calls.add(call);
        answers.add(call.on(bench));
        return new Answer(answers.get(answers.size() - 1));
    }

    /** Feeds a text behind an empty tape and tells it. */
    Answer tell(int k, String text) {
        put(text);
        return text(k);
    }

    /** Feeds a text behind an empty tape. */
    void put(String text) {
        for (int i = 0; i < text.length(); i += 20) {
            int[] five = new int[5];
            for (int j = 0; j < 20; j++) {
                five[j / 4] = five[j / 4] << 8 | (i + j < text.length() ? text.charAt(i + j) : ' ');
            }
            feed(five[0], five[1], five[2], five[3], five[4]);
        }
        end(text.length()).is(true);
    }

    /** A text that stands, with how many lines or deeds it has. */
    void good(int k, String text, int count) {
        tell(k, text).is(count);
        fault(0).is(0);
        fault(1).is(SungEvidence.NONE);
        look(6 + k).is(count);
    }

    /** A text that is refused with that fault at that place: all but the tape and fault() stays as it was. */
    void faulty(int k, String text, int fault, int place) {
        tell(k, text).is(SungEvidence.NONE);
        List<Call> without = new ArrayList<>(calls.subList(0, calls.size() - 1));
        without.add(new Call("end", 0));
        Probes.same(without, calls, false);
        fault(0).is(fault);
        fault(1).is(place);
    }

    /** Makes all calls again on a new object, which must answer the same. */
    void again() {
        Check.due(Sentences.now() + ": 512 calls at most", calls.size() <= MOST_CALLS, true);
        SungEvidence other = new SungEvidence();
        for (int i = 0; i < calls.size(); i++) {
            String label = Sentences.now() + ": again call " + (i + 1) + " " + calls.get(i);
            Check.due(label, calls.get(i).on(other), answers.get(i));
        }
    }

    int howManyCalls() {
        return calls.size();
    }

    /** The bench is as it was behind the first so many calls. */
    void isAsBehind(int howMany) {
        Probes.same(calls.subList(0, howMany), calls, true);
    }

    /** The bench is as it was behind the first so many calls, but that nothing can be undone. */
    void isImageOf(int howMany) {
        List<Call> then = new ArrayList<>(calls.subList(0, howMany));
        then.add(new Call("image", true));
        then.add(new Call("image", false));
        Probes.same(then, calls, true);
    }

    Answer state(int v) {
        return ask("state", v);
    }

    Answer witness(int low, int high, int breath) {
        return ask("witness", low, high, breath);
    }

    Answer claim(int witness, int fact, int value) {
        return ask("claim", witness, fact, value);
    }

    Answer set(int what, int who, int v) {
        return ask("set", what, who, v);
    }

    Answer feed(int a, int b, int c, int d, int e) {
        return ask("feed", a, b, c, d, e);
    }

    Answer end(int n) {
        return ask("end", n);
    }

    Answer text(int k) {
        return ask("text", k);
    }

    Answer fault(int what) {
        return ask("fault", what);
    }

    Answer call(int witness, int fact, int key) {
        return ask("call", witness, fact, key);
    }

    Answer cross(int witness) {
        return ask("cross", witness);
    }

    Answer strike(int testimony) {
        return ask("strike", testimony);
    }

    Answer days(int n) {
        return ask("days", n);
    }

    Answer trial() {
        return ask("trial");
    }

    Answer of(int witness, int what) {
        return ask("of", witness, what);
    }

    Answer testimony(int i, int what) {
        return ask("testimony", i, what);
    }

    Answer bar(int i) {
        return ask("bar", i);
    }

    Answer motive(int which, int what) {
        return ask("motive", which, what);
    }

    Answer book(int i, int what) {
        return ask("book", i, what);
    }

    Answer keys(int witness, int fact, int what) {
        return ask("keys", witness, fact, what);
    }

    Answer fair(int witness, int fact, int key, int e) {
        return ask("fair", witness, fact, key, e);
    }

    Answer heard(int note) {
        return ask("heard", note);
    }

    Answer read(int e, int what) {
        return ask("read", e, what);
    }

    Answer duet(int a, int b) {
        return ask("duet", a, b);
    }

    Answer best(int witness, int fact, int testimony, int what) {
        return ask("best", witness, fact, testimony, what);
    }

    Answer canon(int testimony, int d) {
        return ask("canon", testimony, d);
    }

    Answer weighed(int fact, int value) {
        return ask("weighed", fact, value);
    }

    Answer found(int fact) {
        return ask("found", fact);
    }

    Answer calls(int fact, int value, int what) {
        return ask("calls", fact, value, what);
    }

    Answer choir(int what) {
        return ask("choir", what);
    }

    Answer worlds(int e, int what) {
        return ask("worlds", e, what);
    }

    Answer chord(int a, int b, int c, int d, int note, int what) {
        return ask("chord", a, b, c, d, note, what);
    }

    Answer undo() {
        return ask("undo");
    }

    Answer image(boolean taken) {
        return ask("image", taken);
    }

    Answer look(int what) {
        return ask("look", what);
    }
}
