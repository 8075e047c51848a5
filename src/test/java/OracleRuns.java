import java.util.Random;

/** Runs of calls by chance, the class against PlainBench: every answer must be alike. */
public final class OracleRuns {
    private static final String[] TERMS = {
        "nerve", "hoarse", "breath", "bar", "note", "room", "fact", "value", "day", "sung", "slips"};
    private static final String[] SCRAPS = {
        "motive", "up", "down", "same", "slip", "shake", "weight", "when", "or", "and", "not", "call", "on", "in",
        "cross", "rest", "again", ";", "+", "-", "*", "/", "(", ")", "<", "=", ">", "0", "1", "7", "25", "9999",
        "10000", "x", "Slip", ".", "\t", "\n", " ", "\u00e9", "slipslip", "12ab", "00", "60", "8"};

    private static final int MOST_CALLS = 512;
    /** A text as long as the tape takes 24 calls; nothing else here takes as many. */
    private static final int MOST_AT_ONCE = 24;

    private final Random chance;
    private final SungEvidence x = new SungEvidence();
    private final PlainBench y = new PlainBench();
    private final String name;
    /** Most runs seldom tell anew what makes singing possible, so that testimonies gather. */
    private final boolean steady;
    /** What later calls answer than the 512th is free: so many were made. */
    private int made = 0;

    private OracleRuns(long seed) {
        chance = new Random(seed);
        name = "run " + seed + ": ";
        steady = below(5) > 0;
    }

    public static void main(String[] args) {
        int runs = args.length > 1 ? Integer.parseInt(args[1]) : 1500;
        for (int seed = 0; seed < runs; seed++) {
            new OracleRuns(seed).go();
        }
        Check.close("OracleRuns");
    }

    private void go() {
        if (below(10) > 0) {
            setUp();
        }
        while (made <= MOST_CALLS - MOST_AT_ONCE) {
            int texts = steady ? 2 : 12;
            if (below(100) < texts) {
                tellText(steady ? from(1, 2) : below(3));
            } else {
                oneCall();
            }
        }
        Check.due(name + "512 calls at most", made <= MOST_CALLS, true);
    }

    private int below(int n) {
        return chance.nextInt(n);
    }

    private int from(int least, int most) {
        return least + below(most - least + 1);
    }

    /** Mostly within the bounds, sometimes one beyond them, seldom anything. */
    private int about(int least, int most) {
        int kind = below(40);
        if (kind == 0) {
            return chance.nextInt();
        }
        return kind < 4 ? from(least - 2, most + 2) : from(least, most);
    }

    private void setUp() {
        int witnesses = from(1, 8);
        for (int i = 0; i < witnesses; i++) {
            int low = from(1, 30);
            int high = below(3) == 0 ? from(low, 60) : from(Math.max(low, 30), 60);
            int breath = from(1, 9);
            same("witness", x.witness(low, high, breath), y.witness(low, high, breath));
            for (int fact = 0; fact < 6; fact++) {
                if (below(3) > 0) {
                    int value = below(4) == 0 ? from(0, 3) : fact % 4;
                    same("claim", x.claim(i, fact, value), y.claim(i, fact, value));
                }
            }
        }
        for (int k = 0; k < 3; k++) {
            tellText(k);
        }
        if (below(4) == 0) {
            for (int i = 0; i < 40; i++) {
                int n = 24 + below(6);
                same("days", x.days(n), y.days(n));
            }
        }
    }

    /** One call of the class, and the same of the model. */
    private void same(String call, int got, int want) {
        made++;
        Check.due(name + call, got, want);
    }

    private void same(String call, boolean got, boolean want) {
        made++;
        Check.due(name + call, got, want);
    }

    private void tellText(int k) {
        String text = k == 0 ? motives() : k == 1 ? law() : plan();
        if (below(3) == 0 && !steady) {
            text = spoiled(text);
        }
        if (text.length() > 400) {
            text = text.substring(0, 400);
        }
        for (int i = 0; i < text.length(); i += 20) {
            int[] five = new int[5];
            for (int j = 0; j < 20; j++) {
                int sign = i + j < text.length() ? text.charAt(i + j) : chance.nextInt(256);
                five[j / 4] = five[j / 4] << 8 | sign;
            }
            same("feed", x.feed(five[0], five[1], five[2], five[3], five[4]), y.feed(five));
        }
        int n = below(30) == 0 ? from(-1, 420) : text.length();
        same("end(" + n + ")", x.end(n), y.end(n));
        int which = below(40) == 0 ? about(-1, 3) : k;
        same("text(" + which + ") of '" + text + "'", x.text(which), y.text(which));
        same("fault(0) of '" + text + "'", x.fault(0), y.fault(0));
        same("fault(1) of '" + text + "'", x.fault(1), y.fault(1));
    }

    private String spoiled(String text) {
        StringBuilder s = new StringBuilder(text);
        int times = from(1, 3);
        for (int i = 0; i < times; i++) {
            int at = below(s.length() + 1);
            int kind = below(3);
            if (kind == 0) {
                s.insert(at, SCRAPS[below(SCRAPS.length)]);
            } else if (kind == 1) {
                s.delete(at, Math.min(s.length(), at + from(1, 6)));
            } else {
                s.insert(at, " " + SCRAPS[below(SCRAPS.length)] + " ");
            }
        }
        return s.toString();
    }

    private String gap() {
        return below(6) == 0 ? "\n  " : " ";
    }

    private String motives() {
        StringBuilder s = new StringBuilder();
        int lines = below(12) == 0 ? from(15, 18) : steady ? from(6, 10) : below(12);
        boolean small = steady || below(3) > 0;
        boolean told = below(12) == 0 && !steady;
        int first = steady ? 0 : below(24);
        for (int i = 0; i < lines; i++) {
            int which = told ? below(24) : (first + i * 5 + i / 24) % 24;
            s.append("motive").append(gap()).append(which / 4).append(' ').append(which % 4);
            int steps = lines > 14 ? below(2) : below(20) == 0 && !steady ? from(6, 9) : below(steady ? 5 : 6);
            for (int j = 0; j < steps; j++) {
                int kind = below(5);
                s.append(gap()).append(kind == 0 ? "same" : kind < 3 ? "up" : "down");
                if (kind > 0) {
                    s.append(below(2) == 0 ? "" : " ").append(small ? from(1, 7) : about(1, 24) & 63);
                }
            }
            s.append(';');
        }
        return s.toString();
    }

    private String law() {
        StringBuilder s = new StringBuilder();
        int lines = below(12) == 0 ? from(15, 18) : below(6);
        for (int i = 0; i < lines; i++) {
            s.append(new String[] {"slip", "shake", "weight"}[below(3)]).append(gap());
            if (lines > 14 || steady && below(2) == 0) {
                s.append(below(2) == 0 ? from(0, 900) : from(1, 12));
            } else {
                sum(s);
            }
            if (lines < 15 && below(3) > 0) {
                s.append(" when ");
                either(s, 0);
            }
            s.append(';');
        }
        return s.toString();
    }

    private void either(StringBuilder s, int depth) {
        int parts = below(3) == 0 ? 2 : 1;
        for (int i = 0; i < parts; i++) {
            s.append(i == 0 ? "" : " or ");
            test(s, depth);
            if (below(3) == 0) {
                s.append(" and ");
                test(s, depth);
            }
        }
    }

    private void test(StringBuilder s, int depth) {
        if (below(30) == 0) {
            int n = from(6, 10);
            for (int i = 0; i < n; i++) {
                s.append(below(2) == 0 ? "not " : "not");
            }
        }
        int kind = depth > 4 ? 9 : below(8);
        if (kind == 0) {
            s.append("not ");
            test(s, depth + 1);
        } else if (kind == 1) {
            s.append('(');
            either(s, depth + 1);
            s.append(')');
        } else {
            sum(s);
            s.append(new String[] {"<", "=", " > "}[below(3)]);
            sum(s);
        }
    }

    private void sum(StringBuilder s) {
        product(s);
        while (below(3) == 0) {
            s.append(below(2) == 0 ? " + " : "-");
            product(s);
        }
    }

    private void product(StringBuilder s) {
        unit(s);
        while (below(4) == 0) {
            if (below(2) == 0) {
                s.append("*");
                unit(s);
            } else {
                s.append(" / ").append(below(20) == 0 ? 0 : from(1, 30));
            }
        }
    }

    private void unit(StringBuilder s) {
        if (below(2) == 0) {
            s.append(below(5) == 0 ? from(0, 9999) : from(0, 200));
        } else {
            s.append(TERMS[below(TERMS.length)]);
        }
    }

    private String plan() {
        StringBuilder s = new StringBuilder();
        deeds(s, 0);
        return s.toString();
    }

    private void deeds(StringBuilder s, int depth) {
        int count = below(depth == 0 ? 9 : 4);
        for (int i = 0; i < count; i++) {
            int kind = below(10);
            if (kind < 5) {
                s.append("call ").append(below(20) == 0 ? below(10) : below(Math.max(1, y.look(0))));
                s.append(gap()).append("on ").append(below(6)).append(" in ");
                s.append(below(20) == 0 ? from(55, 62) : from(0, 40)).append(' ');
            } else if (kind < 7) {
                s.append("cross ").append(below(Math.max(1, y.look(0)))).append(' ');
            } else if (kind < 8) {
                s.append("rest ");
            } else {
                s.append("again ").append(below(20) == 0 ? below(12) : from(1, 4)).append('(');
                if (depth < 5) {
                    deeds(s, depth + 1);
                }
                s.append(')');
            }
        }
    }

    private int witness() {
        return below(12) == 0 ? about(-1, 8) : below(Math.max(1, y.look(0)));
    }

    private int testimony() {
        return below(12) == 0 ? about(-1, 20) : below(Math.max(1, y.look(2)));
    }

    private int keyFor(int w, int fact) {
        int least = y.keys(w, fact, 1);
        if (least == -1 || below(6) == 0) {
            return about(0, 59);
        }
        return from(least, y.keys(w, fact, 2));
    }

    private void oneCall() {
        int kind = below(100);
        if (kind < (steady ? 3 : 8)) {
            tellOne();
        } else if (kind < (steady ? 46 : 36)) {
            doOne();
        } else {
            askOne();
        }
        int what = below(25) == 0 ? about(-1, 14) : below(14);
        same("look(" + what + ")", x.look(what), y.look(what));
    }

    private void tellOne() {
        int kind = steady && below(2) == 0 ? from(5, 10) : below(12);
        if (kind == 0) {
            int v = chance.nextInt();
            same("state", x.state(v), y.state(v));
        } else if (kind == 1) {
            int low = about(1, 40);
            int high = about(30, 60);
            int breath = about(1, 9);
            same("witness", x.witness(low, high, breath), y.witness(low, high, breath));
        } else if (kind < 5) {
            int w = witness();
            int fact = about(0, 5);
            int value = about(-1, 3);
            same("claim", x.claim(w, fact, value), y.claim(w, fact, value));
        } else if (kind < 8) {
            int what = about(0, 4);
            int most = new int[] {4095, 999, 9, 99, 1}[Math.max(0, Math.min(4, what))];
            int v = what == 1 && below(2) == 0 ? from(1, 20) : about(0, most);
            int w = witness();
            same("set(" + what + ", " + w + ", " + v + ")", x.set(what, w, v), y.set(what, w, v));
        } else if (kind < 11) {
            int note = below(6) == 0 ? 0 : about(1, 60);
            same("heard", x.heard(note), y.heard(note));
        } else {
            boolean taken = below(2) == 0;
            same("image(" + taken + ")", x.image(taken), y.image(taken));
        }
    }

    private void doOne() {
        int kind = below(28);
        if (kind < 12) {
            int w = witness();
            int fact = about(0, 5);
            int key = keyFor(w, fact);
            same("call", x.call(w, fact, key), y.call(w, fact, key));
        } else if (kind < 16) {
            int w = witness();
            same("cross", x.cross(w), y.cross(w));
        } else if (kind < 18) {
            int t = testimony();
            same("strike", x.strike(t), y.strike(t));
        } else if (kind < 20) {
            int n = below(3) > 0 ? from(1, 3) : about(0, 31);
            same("days", x.days(n), y.days(n));
        } else if (kind < 21) {
            same("trial", x.trial(), y.trial());
        } else if (!steady || below(2) == 0) {
            same("undo", x.undo(), y.undo());
        }
    }

    private void askOne() {
        if (below(2) == 0) {
            askOfState();
        } else {
            askInThought();
        }
    }

    private void askOfState() {
        int i = about(0, 220);
        switch (below(6)) {
            case 0: {
                int w = witness();
                int what = below(2) == 0 ? about(0, 6) : about(10, 15);
                same("of(" + w + ", " + what + ")", x.of(w, what), y.of(w, what));
                break;
            }
            case 1: {
                int t = testimony();
                int what = about(0, 7);
                same("testimony(" + t + ", " + what + ")", x.testimony(t, what), y.testimony(t, what));
                break;
            }
            case 2: {
                int at = below(4) == 0 ? i : below(y.look(3) + 2) - 1;
                same("bar(" + at + ")", x.bar(at), y.bar(at));
                break;
            }
            case 3: {
                int which = about(0, 23);
                int what = about(0, 8);
                same("motive(" + which + ", " + what + ")", x.motive(which, what), y.motive(which, what));
                break;
            }
            case 4: {
                int at = below(4) == 0 ? i : below(y.look(4) + 2) - 1;
                int what = about(0, 4);
                same("book(" + at + ", " + what + ")", x.book(at, what), y.book(at, what));
                break;
            }
            default: {
                int what = about(0, 1);
                same("fault(" + what + ")", x.fault(what), y.fault(what));
                break;
            }
        }
    }

    private void askInThought() {
        int w = witness();
        int fact = about(0, 5);
        int t = testimony();
        int value = about(0, 3);
        int what = about(0, 2);
        switch (below(13)) {
            case 0:
                same("keys(" + w + ", " + fact + ", " + what + ")", x.keys(w, fact, what), y.keys(w, fact, what));
                break;
            case 1: {
                int key = keyFor(w, fact);
                int e = about(0, 9);
                same("fair(" + w + ", " + fact + ", " + key + ", " + e + ")", x.fair(w, fact, key, e),
                    y.fair(w, fact, key, e));
                break;
            }
            case 2: {
                hearMelody();
                int e = about(0, 9);
                same("read(" + e + ", " + what + ")", x.read(e, what), y.read(e, what));
                break;
            }
            case 3: {
                int u = testimony();
                same("duet(" + t + ", " + u + ")", x.duet(t, u), y.duet(t, u));
                break;
            }
            case 4: {
                int one = about(0, 1);
                same("best(" + w + ", " + fact + ", " + t + ", " + one + ")", x.best(w, fact, t, one),
                    y.best(w, fact, t, one));
                break;
            }
            case 5: {
                int d = below(3) == 0 ? about(1, 30) : from(1, 6);
                same("canon(" + t + ", " + d + ")", x.canon(t, d), y.canon(t, d));
                break;
            }
            case 6:
                same("weighed(" + fact + ", " + value + ")", x.weighed(fact, value), y.weighed(fact, value));
                break;
            case 7:
                same("found(" + fact + ")", x.found(fact), y.found(fact));
                break;
            case 8: {
                int one = about(0, 1);
                same("calls(" + fact + ", " + value + ", " + one + ")", x.calls(fact, value, one),
                    y.calls(fact, value, one));
                break;
            }
            case 9: {
                int one = about(0, 1);
                same("choir(" + one + ")", x.choir(one), y.choir(one));
                break;
            }
            case 10: {
                int e = about(0, 8);
                same("worlds(" + e + ", " + what + ")", x.worlds(e, what), y.worlds(e, what));
                break;
            }
            default:
                askChord();
                break;
        }
    }

    /** Sometimes the notes of a motive are heard, one of them perhaps unlike. */
    private void hearMelody() {
        int which = below(24);
        int notes = y.motive(which, 0);
        if (notes == 0 || below(3) == 0) {
            return;
        }
        same("heard(0)", x.heard(0), y.heard(0));
        int note = from(10, 50);
        for (int i = 0; i < notes; i++) {
            int told = below(6) == 0 ? from(1, 60) : Math.max(1, Math.min(60, note));
            same("heard", x.heard(told), y.heard(told));
            note += i < notes - 1 ? y.motive(which, i + 1) : 0;
        }
    }

    private void askChord() {
        int a = witness();
        int b = below(4) == 0 ? witness() : a + 1;
        int c = below(4) == 0 ? witness() : a + 2;
        int d = below(4) == 0 ? witness() : a + 3;
        int note = about(1, 60);
        int what = about(0, 3);
        String call = "chord(" + a + ", " + b + ", " + c + ", " + d + ", " + note + ", " + what + ")";
        same(call, x.chord(a, b, c, d, note, what), y.chord(a, b, c, d, note, what));
    }
}
