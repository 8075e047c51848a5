/** What the tests of the document's boundaries share: numbers one step beyond, draws foretold, small benches. */
final class Edges {
    static final int NONE = SungEvidence.NONE;
    private static final int FACTOR = 1664525;
    private static final int SUMMAND = 1013904223;

    private Edges() {
    }

    /** One step beyond on both sides, and as far beyond as there is. */
    static int[] beyond(int least, int most) {
        return new int[] {least - 1, most + 1, Integer.MIN_VALUE, Integer.MAX_VALUE};
    }

    /** The state from which a draw makes this one. */
    static int stateBefore(int next) {
        int inverse = FACTOR;
        for (int i = 0; i < 5; i++) {
            inverse *= 2 - FACTOR * inverse;
        }
        return (next - SUMMAND) * inverse;
    }

    /** A state whose next draw has these highest 24 bits. */
    static int stateDrawing(int bits) {
        return stateBefore(bits << 8 | 165);
    }

    static int stateBehind(int state, int draws) {
        long now = state & 0xffffffffL;
        for (int i = 0; i < draws; i++) {
            now = (now * FACTOR + SUMMAND) & 0xffffffffL;
        }
        return (int) now;
    }

    static int draw(int state, int which, int m) {
        long next = stateBehind(state, which + 1) & 0xffffffffL;
        return (int) (next / 256 % m);
    }

    /** One witness with that range and breath, who claims 0 of fact 0, of which that is the motive; nobody slips. */
    static void singer(LoggedBench x, int low, int high, int breath, String steps) {
        x.witness(low, high, breath).is(0);
        x.claim(0, 0, 0).is(true);
        x.tell(0, "motive 0 0 " + steps + ";").is(1);
        x.tell(1, "slip 0; shake 0;").is(2);
    }

    /**
     * Three witnesses, of whom 0 and 1 claim 0 of fact 0 and 2 claims 1 of it, motives, a law by which nobody slips or
     * shakes, a trial, two testimonies, a struck one, a day, notes heard, an image, deeds to undo, and a tape.
     */
    static void fullBench(LoggedBench x) {
        x.witness(10, 40, 2);
        x.witness(1, 60, 9);
        x.witness(20, 50, 1);
        x.claim(0, 0, 0);
        x.claim(1, 0, 0);
        x.claim(2, 0, 1);
        x.claim(1, 5, 3);
        x.tell(0, "motive 0 0 up 4 up 3;motive 0 1 same;motive 5 3;").is(3);
        x.tell(2, "cross 0 rest").is(2);
        x.tell(1, "slip 0;shake 0;weight 5;").is(3);
        x.state(77);
        x.heard(20);
        x.heard(24);
        x.heard(27);
        x.call(2, 0, 24);
        x.image(true);
        x.call(0, 0, 19);
        x.cross(1);
        x.days(1);
        x.strike(0);
        x.put("motive 0 0;");
    }

    static String repeated(String text, int times) {
        StringBuilder all = new StringBuilder();
        for (int i = 0; i < times; i++) {
            all.append(text);
        }
        return all.toString();
    }

    /** So many lines of motives, each of another fact and value. */
    static String motives(int howMany) {
        StringBuilder all = new StringBuilder();
        for (int i = 0; i < howMany; i++) {
            all.append("motive ").append(i / 4).append(' ').append(i % 4).append(';');
        }
        return all.toString();
    }
}
