/** Of each promise of the document: ordinary inputs, the edges it names, wrong inputs. */
public final class PromiseTests {
    private static final int NONE = SungEvidence.NONE;
    /** Two numbers out of all that is asked, to be tried wherever something can't be. */
    private static final int[] WILD = {Integer.MIN_VALUE, Integer.MAX_VALUE};

    private PromiseTests() {
    }

    public static void main(String[] args) {
        newObject();
        state();
        witness();
        claim();
        set();
        feed();
        end();
        text();
        textTokens();
        textOfSigns();
        textMotives();
        textLaw();
        textTrial();
        fault();
        call();
        callWithSlips();
        callRoom();
        lawTerms();
        lawSums();
        lawConditions();
        cross();
        strike();
        days();
        trial();
        of();
        testimony();
        bar();
        motive();
        book();
        keys();
        fair();
        heard();
        read();
        duet();
        best();
        canon();
        weighed();
        found();
        calls();
        choir();
        worlds();
        chord();
        undo();
        undoForgets();
        image();
        look();
        Check.close("PromiseTests");
    }

    private static void due(String call, int got, int want) {
        Check.due(call, got, want);
    }

    private static void due(String call, boolean got, boolean want) {
        Check.due(call, got, want);
    }

    /** Of the draws of 1000 that a state gives, the first ones, as the document tells them. */
    private static int[] draws(int state, int m, int howMany) {
        int[] all = new int[howMany];
        for (int i = 0; i < howMany; i++) {
            state = state * 1664525 + 1013904223;
            all[i] = (state >>> 8) % m;
        }
        return all;
    }

    /** Three witnesses, of whom 0 and 1 claim 0 of fact 0, and 2 claims 1 of it; motives of both; nobody slips. */
    private static SungEvidence smallBench() {
        SungEvidence x = new SungEvidence();
        x.witness(10, 30, 2);
        x.witness(1, 60, 9);
        x.witness(20, 40, 3);
        x.claim(0, 0, 0);
        x.claim(1, 0, 0);
        x.claim(2, 0, 1);
        Check.good(x, 0, "motive 0 0 up 4 up 3 down 7; motive 0 1 same; motive 3 2;", 3);
        x.set(3, 0, 99);
        x.set(3, 1, 99);
        x.set(3, 2, 99);
        return x;
    }

    private static void newObject() {
        SungEvidence x = new SungEvidence();
        due("NONE", SungEvidence.NONE, -1);
        int[] due = {0, 0, 0, 0, 0, 0, 0, 0, 0, 0, 0, 953, 10, 1};
        for (int i = 0; i < due.length; i++) {
            due("look(" + i + ") of a new one", x.look(i), due[i]);
        }
        for (int i = 0; i < 24; i++) {
            due("motive of a new one", x.motive(i, 0), 0);
        }
        due("fault(0) of a new one", x.fault(0), 0);
        due("fault(1) of a new one", x.fault(1), NONE);
        due("undo of a new one", x.undo(), false);
        due("image(false) of a new one", x.image(false), false);
        due("end(0) of a new one", x.end(0), true);
        due("end(1) of a new one", x.end(1), false);
    }

    private static void state() {
        SungEvidence x = new SungEvidence();
        due("state(7)", x.state(7), 0);
        due("state(-5)", x.state(-5), 7);
        due("state(MIN)", x.state(Integer.MIN_VALUE), -5);
        due("look(5)", x.look(5), Integer.MIN_VALUE);
        due("state(0)", x.state(0), Integer.MIN_VALUE);
        x.witness(1, 60, 1);
        x.days(1);
        due("state behind one draw", x.state(1), 1013904223);
        x.days(1);
        due("state behind a draw from 1", x.look(5), 1664525 + 1013904223);
    }

    private static void witness() {
        SungEvidence x = new SungEvidence();
        int[][] wrong = {{0, 5, 1}, {61, 61, 1}, {5, 4, 1}, {1, 61, 1}, {1, 5, 0}, {1, 5, 10}, {-1, 5, 1},
            {WILD[0], 5, 1}, {1, WILD[1], 1}, {1, 5, WILD[0]}, {1, 5, WILD[1]}};
        for (int[] w : wrong) {
            due("witness that can't be", x.witness(w[0], w[1], w[2]), NONE);
        }
        due("none came", x.look(0), 0);
        due("witness(1, 60, 9)", x.witness(1, 60, 9), 0);
        due("witness(60, 60, 1)", x.witness(60, 60, 1), 1);
        due("witness(1, 1, 1)", x.witness(1, 1, 1), 2);
        for (int i = 3; i < 8; i++) {
            due("witness " + i, x.witness(i, 20 + i, i), i);
        }
        due("the ninth", x.witness(1, 60, 9), NONE);
        due("eight", x.look(0), 8);
        due("of(7, 0)", x.of(7, 0), 7);
        due("of(7, 1)", x.of(7, 1), 27);
        due("of(7, 2)", x.of(7, 2), 7);
        due("of(7, 3)", x.of(7, 3), 50);
        due("of(7, 4)", x.of(7, 4), 0);
        for (int f = 0; f < 6; f++) {
            due("no claim at first", x.of(7, 10 + f), NONE);
        }
    }

    private static void claim() {
        SungEvidence x = new SungEvidence();
        due("claim of nobody", x.claim(0, 0, 0), false);
        x.witness(1, 60, 9);
        x.witness(1, 60, 9);
        int[][] wrong = {{2, 0, 0}, {-1, 0, 0}, {0, 6, 0}, {0, -1, 0}, {0, 0, 4}, {0, 0, -2}, {WILD[1], 0, 0},
            {0, WILD[0], 0}, {0, 0, WILD[1]}, {0, 0, WILD[0]}};
        for (int[] c : wrong) {
            due("claim that can't be", x.claim(c[0], c[1], c[2]), false);
        }
        due("claim(1, 5, 3)", x.claim(1, 5, 3), true);
        due("of(1, 15)", x.of(1, 15), 3);
        due("of(0, 15)", x.of(0, 15), NONE);
        due("claim(1, 5, 0)", x.claim(1, 5, 0), true);
        due("of(1, 15)", x.of(1, 15), 0);
        due("claim(1, 5, NONE)", x.claim(1, 5, NONE), true);
        due("of(1, 15)", x.of(1, 15), NONE);
    }

    private static void set() {
        SungEvidence x = new SungEvidence();
        int[][] most = {{0, 0, 4095, 11}, {1, 1, 999, 12}, {2, 0, 9, 13}};
        for (int[] m : most) {
            due("set of least", x.set(m[0], -77, m[1]), true);
            due("look", x.look(m[3]), m[1]);
            due("set of most", x.set(m[0], 99, m[2]), true);
            due("look", x.look(m[3]), m[2]);
            due("set below", x.set(m[0], 0, m[1] - 1), false);
            due("set above", x.set(m[0], 0, m[2] + 1), false);
            due("set wild", x.set(m[0], 0, WILD[0]) || x.set(m[0], 0, WILD[1]), false);
            due("look", x.look(m[3]), m[2]);
        }
        due("set nerve of nobody", x.set(3, 0, 1), false);
        x.witness(1, 60, 9);
        due("set(3, 0, 0)", x.set(3, 0, 0), true);
        due("of(0, 3)", x.of(0, 3), 0);
        due("set(3, 0, 99)", x.set(3, 0, 99), true);
        due("of(0, 3)", x.of(0, 3), 99);
        due("set(3, 0, 100)", x.set(3, 0, 100), false);
        due("set(3, 0, -1)", x.set(3, 0, -1), false);
        due("set(3, 1, 5)", x.set(3, 1, 5), false);
        due("set(3, -1, 5)", x.set(3, -1, 5), false);
        due("set(4, 0, 1)", x.set(4, 0, 1), true);
        due("of(0, 4)", x.of(0, 4), 1);
        due("set(4, 0, 2)", x.set(4, 0, 2), false);
        due("set(4, 0, -1)", x.set(4, 0, -1), false);
        due("set(4, 1, 0)", x.set(4, 1, 0), false);
        due("set(5, 0, 0)", x.set(5, 0, 0), false);
        due("set(-1, 0, 0)", x.set(-1, 0, 0), false);
        due("set(MIN)", x.set(WILD[0], 0, 0) || x.set(WILD[1], 0, 0), false);
        due("of(0, 4)", x.of(0, 4), 1);
    }

    private static void feed() {
        SungEvidence x = new SungEvidence();
        for (int i = 1; i <= 20; i++) {
            due("feed " + i, x.feed(0x20202020, 0x20202020, 0x20202020, 0x20202020, 0x20202020), 20 * i);
        }
        due("feed beyond 400", x.feed(0, 0, 0, 0, 0), NONE);
        due("text of blanks", x.text(0), 0);
        due("the tape is empty then", x.feed(0x6d6f7469, 0x76652030, 0x20303b20, 0x20202020, 0x20202020), 20);
        due("highest byte first", x.text(0), 1);
        for (int i = 1; i <= 20; i++) {
            x.feed(-1, -1, -1, -1, -1);
        }
        due("end(381)", x.end(381), true);
        due("feed that would be 401", x.feed(0, 0, 0, 0, 0), NONE);
        due("still 381", x.end(382), false);
        due("end(380)", x.end(380), true);
        due("feed to 400", x.feed(0, 0, 0, 0, 0), 400);
    }

    private static void end() {
        SungEvidence x = new SungEvidence();
        x.feed(0x6d6f7469, 0x76652030, 0x20303b78, 0x78787878, 0x78787878);
        due("end(21)", x.end(21), false);
        due("end(-1)", x.end(-1), false);
        due("end(MIN)", x.end(WILD[0]), false);
        due("end(MAX)", x.end(WILD[1]), false);
        due("end(20)", x.end(20), true);
        due("end(11)", x.end(11), true);
        due("end(12)", x.end(12), false);
        due("text(0)", x.text(0), 1);
        due("end(1) behind a text", x.end(1), false);
    }

    private static void text() {
        SungEvidence x = new SungEvidence();
        Check.good(x, 0, "motive 1 2 up 3; motive 1 3;", 2);
        Check.faulty(x, 0, "motive 1 2 up 0;", 2, 14);
        due("the tape is empty behind a fault", x.end(1), false);
        due("it stays as it was", x.motive(6, 1), 3);
        due("lines stay", x.look(6), 2);
        Check.good(x, 0, "motive 0 0;", 1);
        due("a motive without a line has none", x.motive(6, 0), 0);
        Check.good(x, 0, "", 0);
        due("none", x.motive(0, 0), 0);
        Check.good(x, 1, "slip 1; shake 2; weight 3;", 3);
        Check.faulty(x, 1, "slip;", 1, 4);
        due("the law stays", x.look(7), 3);
        x.witness(1, 60, 1);
        Check.good(x, 2, "cross 0 rest", 2);
        Check.faulty(x, 2, "cross 1", 2, 6);
        due("the trial stays", x.look(8), 2);
        Check.faulty(x, 2, "cross 1", 2, 6);
        for (int k : new int[] {-1, 3, WILD[0], WILD[1]}) {
            due("no such text", x.text(k), NONE);
            due("no such text has no fault", x.fault(0), 0);
            due("no such text has no place", x.fault(1), NONE);
            x.feed(0, 0, 0, 0, 0);
            due("no such text", x.text(k), NONE);
            due("no such text has no fault", x.fault(0), 0);
            due("the tape is empty behind no such text", x.end(1), false);
            due("feeding begins anew", x.feed(0, 0, 0, 0, 0), 20);
            x.end(0);
        }
        due("the texts stay", x.look(6) + x.look(7) * 10 + x.look(8) * 100, 230);
    }

    private static void textTokens() {
        SungEvidence x = new SungEvidence();
        Check.good(x, 0, "motive0 0up3same\ndown 024;\n", 1);
        due("up 3", x.motive(0, 1), 3);
        due("same", x.motive(0, 2), 0);
        due("down 24", x.motive(0, 3), -24);
        Check.faulty(x, 0, "motives 0 0;", 1, 0);
        Check.faulty(x, 0, "Motive 0 0;", 1, 0);
        Check.faulty(x, 0, "motive 00000 0;", 1, 7);
        Check.good(x, 0, "motive 0000 0003;", 1);
        Check.faulty(x, 0, "motive 0 0 upsame;", 1, 11);
        Check.faulty(x, 0, "motive\t0 0;", 1, 6);
        Check.faulty(x, 0, "motive 0 0;\r", 1, 11);
        Check.faulty(x, 0, "motive 0 0 slip;", 1, 11);
        Check.faulty(x, 0, "motive 0 0 up 3.", 1, 15);
        Check.faulty(x, 0, "motive 0 0\u00e9;", 1, 10);
        Check.faulty(x, 0, "motive 0 0 \u0000;", 1, 11);
        Check.faulty(x, 0, "   ;", 1, 3);
        Check.faulty(x, 1, "motive 0 0;", 1, 0);
        Check.faulty(x, 1, "slip nerves;", 1, 5);
        Check.faulty(x, 1, "slip 1 when not1=1 andnot 1=1;", 1, 19);
        Check.good(x, 1, "slip1when not1=1and not(1=1);", 1);
        Check.faulty(x, 2, "slip", 1, 0);
    }

    /** As many tokens as the tape can hold. */
    private static void textOfSigns() {
        SungEvidence x = new SungEvidence();
        x.witness(1, 60, 1);
        StringBuilder signs = new StringBuilder();
        while (signs.length() < 400) {
            signs.append(';');
        }
        for (int k = 0; k < 3; k++) {
            Check.faulty(x, k, signs.toString(), 1, 0);
        }
        StringBuilder sum = new StringBuilder("shake 1");
        while (sum.length() < 399) {
            sum.append("*1");
        }
        Check.good(x, 1, sum + ";", 1);
        due("a long product", x.of(0, 6), 1);
        Check.faulty(x, 1, sum + "*", 1, 400);
    }

    private static void textMotives() {
        SungEvidence x = new SungEvidence();
        Check.faulty(x, 0, "motive", 1, 6);
        Check.faulty(x, 0, "motive  ", 1, 8);
        Check.faulty(x, 0, "motive 6 0;", 2, 7);
        Check.faulty(x, 0, "motive 5 4;", 2, 9);
        Check.faulty(x, 0, "motive 5 3", 1, 10);
        Check.faulty(x, 0, "motive 5 3 up", 1, 13);
        Check.faulty(x, 0, "motive 5 3 up;", 1, 13);
        Check.faulty(x, 0, "motive 5 3 same 1;", 1, 16);
        Check.faulty(x, 0, "motive 5 3 up 25;", 2, 14);
        Check.faulty(x, 0, "motive 5 3 down 0;", 2, 16);
        Check.faulty(x, 0, "motive 1 1; motive 1 1;", 2, 21);
        Check.faulty(x, 0, "motive 1 1; motive 1 2; motive 1 1 x", 2, 33);
        Check.good(x, 0, "motive 1 1; motive 1 2; motive 2 1;", 3);
        Check.good(x, 0, "motive 0 0 up 1 up 2 up 3 up 4 up 5 down 24 same;", 1);
        due("eight notes", x.motive(0, 0), 8);
        Check.faulty(x, 0, "motive 0 0 same same same same same same same same;", 3, 46);
        Check.faulty(x, 0, "motive 0 0 same same same same same same same 3", 1, 46);
        StringBuilder lines = new StringBuilder();
        for (int i = 0; i < 16; i++) {
            lines.append("motive ").append(i / 4).append(' ').append(i % 4).append(';');
        }
        Check.good(x, 0, lines.toString(), 16);
        Check.faulty(x, 0, lines + " motive 0 0;", 3, lines.length() + 1);
        Check.faulty(x, 0, lines + " up", 1, lines.length() + 1);
        due("sixteen stay", x.look(6), 16);
    }

    private static void textLaw() {
        SungEvidence x = new SungEvidence();
        Check.faulty(x, 1, "slip", 1, 4);
        Check.faulty(x, 1, "slip 1", 1, 6);
        Check.faulty(x, 1, "slip 1 2;", 1, 7);
        Check.faulty(x, 1, "slip -1;", 1, 5);
        Check.faulty(x, 1, "slip (1);", 1, 5);
        Check.faulty(x, 1, "slip 1+;", 1, 7);
        Check.faulty(x, 1, "slip 1*;", 1, 7);
        Check.faulty(x, 1, "slip 1/nerve;", 1, 7);
        Check.faulty(x, 1, "slip 1/0;", 2, 7);
        Check.faulty(x, 1, "slip 1/0000;", 2, 7);
        Check.faulty(x, 1, "slip 1/00000;", 1, 7);
        Check.good(x, 1, "slip 1/9999*2/1;", 1);
        Check.faulty(x, 1, "slip 1 when;", 1, 11);
        Check.faulty(x, 1, "slip 1 when 1;", 1, 13);
        Check.faulty(x, 1, "slip 1 when 1=;", 1, 14);
        Check.faulty(x, 1, "slip 1 when 1=1=1;", 1, 15);
        Check.faulty(x, 1, "slip 1 when 1=1 and;", 1, 19);
        Check.faulty(x, 1, "slip 1 when 1=1 or or 1=1;", 1, 19);
        Check.faulty(x, 1, "slip 1 when (1=1;", 1, 16);
        Check.faulty(x, 1, "slip 1 when 1=1);", 1, 15);
        Check.faulty(x, 1, "slip 1 when (1)=1;", 1, 14);
        Check.faulty(x, 1, "slip 1 when not;", 1, 15);
        Check.faulty(x, 1, "slip 1 when 1=1/0;", 2, 16);
        Check.faulty(x, 1, "nerve 1;", 1, 0);
        Check.good(x, 1, "slip 1 when ((((((((1=1))))))));", 1);
        Check.faulty(x, 1, "slip 1 when (((((((((1=1)))))))));", 3, 20);
        Check.good(x, 1, "slip 1 when not(not(not(not(1=1))));", 1);
        Check.faulty(x, 1, "slip 1 when not(not(not(not(not 1=1))));", 3, 28);
        Check.faulty(x, 1, "slip 1 when not(not(not(not((1=1)))));", 3, 28);
        Check.good(x, 1, "slip 1 when (((1=1) and (1=1) or (not 1=1) and ((((1=1)))) or not (((1=1)))));", 1);
        Check.good(x, 1, "slip 1 when not 1=1 or not 1=1 or not 1=1 or not 1=1 or not 1=1 or not 1=1 or not 1=1"
            + " or not 1=1 or not 1=1;", 1);
        StringBuilder lines = new StringBuilder();
        for (int i = 0; i < 16; i++) {
            lines.append(i % 2 == 0 ? "slip 1;" : "weight 2;");
        }
        Check.good(x, 1, lines.toString(), 16);
        Check.faulty(x, 1, lines + "shake 1;", 3, lines.length());
        Check.faulty(x, 1, lines + "when", 1, lines.length());
        due("sixteen stay", x.look(7), 16);
    }

    private static void textTrial() {
        SungEvidence x = new SungEvidence();
        Check.faulty(x, 2, "cross 0", 2, 6);
        Check.faulty(x, 2, "call 0 on 0 in 0", 2, 5);
        x.witness(1, 60, 1);
        Check.good(x, 2, "cross 0 call 0 on 5 in 59", 2);
        Check.faulty(x, 2, "cross 0;", 1, 7);
        Check.faulty(x, 2, "call 0 on 6 in 0", 2, 10);
        Check.faulty(x, 2, "call 0 on 5 in 60", 2, 15);
        Check.faulty(x, 2, "call 0 in 5 on 0", 1, 7);
        Check.faulty(x, 2, "call 0 on 5 on 0", 1, 12);
        Check.faulty(x, 2, "call 0 on 5 in", 1, 14);
        Check.faulty(x, 2, "cross", 1, 5);
        Check.faulty(x, 2, "rest )", 1, 5);
        Check.faulty(x, 2, "(rest)", 1, 0);
        Check.faulty(x, 2, "again 2 rest", 1, 8);
        Check.faulty(x, 2, "again 0 (rest)", 2, 6);
        Check.faulty(x, 2, "again 10 (rest)", 2, 6);
        Check.faulty(x, 2, "again 2 (rest", 1, 13);
        Check.good(x, 2, "again 9 ()", 0);
        Check.good(x, 2, "again 8 (again 1(again 2 (again 3 (rest)) cross 0) )", 56);
    }

    private static void fault() {
        SungEvidence x = new SungEvidence();
        Check.faulty(x, 0, "up", 1, 0);
        for (int what : new int[] {-1, 2, WILD[0], WILD[1]}) {
            due("fault of another what", x.fault(what), NONE);
        }
        due("fault(0) again", x.fault(0), 1);
        Check.good(x, 0, "", 0);
    }

    private static void call() {
        SungEvidence x = smallBench();
        int[][] wrong = {{-1, 0, 20}, {3, 0, 20}, {0, 6, 20}, {0, -1, 20}, {0, 1, 20}, {0, 0, 8}, {0, 0, 23},
            {1, 0, -1}, {1, 0, 60}, {WILD[0], 0, 20}, {0, WILD[1], 20}, {0, 0, WILD[0]}, {0, 0, WILD[1]}};
        for (int[] c : wrong) {
            due("call that can't be", x.call(c[0], c[1], c[2]), NONE);
        }
        due("nothing is done", x.look(2) + x.look(3) + x.look(4) + x.look(5) + x.look(10), 0);
        x.claim(1, 0, 2);
        due("a claim without a motive", x.call(1, 0, 20), NONE);
        x.claim(1, 0, 0);
        due("call(0, 0, 9)", x.call(0, 0, 9), 0);
        int[] bars = {10, 14, 0, 17, 10};
        for (int i = 0; i < bars.length; i++) {
            due("bar " + i, x.bar(i), bars[i]);
        }
        due("nerve is 5 less", x.of(0, 3), 94);
        due("call(0, 0, 22)", x.call(0, 0, 22), 0);
        due("highest note", x.bar(8), 30);
        due("call(1, 0, 0)", x.call(1, 0, 0), 0);
        due("without a rest", x.look(3), 14);
        due("first note 1", x.bar(10), 1);
        x.claim(0, 0, 3);
        due("the testimony stays as it was sung", x.testimony(0, 2), 0);
    }

    private static void callWithSlips() {
        SungEvidence x = smallBench();
        Check.good(x, 1, "slip 400 + 1000 * hoarse; shake 200;", 2);
        x.state(12345);
        int[] draws = draws(12345, 1000, 4);
        int slips = 0;
        int[] notes = {5, 9, 12, 5};
        for (int i = 0; i < 4; i++) {
            slips += draws[i] < 400 ? 1 : 0;
        }
        due("slips", x.call(1, 0, 4), slips);
        for (int i = 0; i < 4; i++) {
            due("bar " + i, x.bar(i), draws[i] < 400 ? notes[i] - 1 : notes[i]);
        }
        due("shake is held to 99", x.of(1, 3), 0);
        x.set(4, 1, 1);
        due("all slip", x.call(1, 0, 0), 4);
        due("note 1 becomes 0", x.bar(4), 0);
        due("what follows is as it should be, but flat", x.bar(5), 4);
        due("slips told", x.testimony(1, 3), 4);
        due("slips in the book", x.book(1, 4), 4);
        x.set(4, 1, 0);
        Check.good(x, 1, "slip 0 - 5;", 1);
        due("slip is held to 0", x.call(1, 0, 0), 0);
    }

    private static void callRoom() {
        SungEvidence x = smallBench();
        for (int i = 0; i < 20; i++) {
            due("call " + i, x.call(2, 0, 20), 0);
        }
        due("the 21st", x.call(2, 0, 20), NONE);
        due("twenty", x.look(2), 20);
        due("forty bars", x.look(3), 40);
        SungEvidence y = new SungEvidence();
        y.witness(1, 60, 1);
        y.claim(0, 0, 0);
        Check.good(y, 0, "motive 0 0 same same same same same same same; motive 0 1 up 1 up 1;motive 0 2 same;motive 0 3;", 4);
        for (int i = 0; i < 13; i++) {
            due("fifteen bars", y.call(0, 0, 5) >= 0, true);
        }
        due("195 bars", y.look(3), 195);
        due("no room for fifteen", y.call(0, 0, 5), NONE);
        y.claim(0, 0, 3);
        due("one bar", y.call(0, 0, 5) >= 0, true);
        y.claim(0, 0, 1);
        due("no room for three notes and two rests", y.call(0, 0, 5), NONE);
        due("undo", y.undo(), false);
        y.claim(0, 0, 2);
        due("three bars", y.call(0, 0, 5) >= 0, true);
        y.claim(0, 0, 3);
        due("one bar", y.call(0, 0, 5) >= 0, true);
        due("200 bars", y.look(3), 200);
        due("no room for one", y.call(0, 0, 5), NONE);
    }

    /** What each word of the law is, read off the weight, the shake and the bars that a law of that word makes. */
    private static void lawTerms() {
        SungEvidence x = new SungEvidence();
        x.witness(3, 50, 4);
        x.claim(0, 2, 3);
        Check.good(x, 0, "motive 2 3 up 10 down 12 same;", 1);
        x.set(3, 0, 60);
        x.days(2);
        x.set(3, 0, 61);
        x.set(4, 0, 0);
        Check.good(x, 1, "slip 0; shake 0;", 2);
        x.call(0, 2, 4);
        String[] words = {"nerve", "hoarse", "breath", "bar", "note", "room", "fact", "value", "day", "sung", "slips"};
        int[] ofWeight = {61, 0, 4, 0, 0, 0, 2, 3, 2, 1, 0};
        int[] ofCross = {61, 0, 4, 0, 0, 0, 0, 0, 2, 1, 0};
        int[][] ofNotes = {{61, 61, 61, 61}, {0, 0, 0, 0}, {4, 4, 4, 4}, {0, 1, 2, 3}, {5, 15, 3, 3},
            {45, 35, 47, 47}, {2, 2, 2, 2}, {3, 3, 3, 3}, {2, 2, 2, 2}, {1, 1, 1, 1}, {0, 0, 0, 0}};
        for (int i = 0; i < words.length; i++) {
            Check.good(x, 1, "weight " + words[i] + "; shake " + words[i] + "; slip 1000 when " + words[i]
                + " = 3; slip 0;", 4);
            due("weight " + words[i], x.testimony(0, 7), ofWeight[i]);
            due("shake of a crossing " + words[i], x.of(0, 6), ofCross[i]);
            int due = 0;
            for (int note : ofNotes[i]) {
                due += note == 3 ? 1 : 0;
            }
            due("slips by " + words[i], x.call(0, 2, 4), due);
            due("shake of a call " + words[i], x.of(0, 3), 61 - ofWeight[i]);
            due("undo", x.undo(), true);
        }
        Check.good(x, 1, "slip 1000 when room > 46; slip 0; weight slips * 10;", 3);
        due("two slips", x.call(0, 2, 4), 2);
        due("slips of the testimony", x.testimony(1, 7), 20);
        Check.good(x, 1, "shake slips * 30 + 1; slip slips * 1000; weight slips;", 3);
        due("slips of the testimony", x.testimony(1, 7), 2);
        due("slips are 0 for shake", x.of(0, 6), 1);
        due("slips of the testimony", x.testimony(1, 7), 2);
        due("slips are 0 for slip", x.fair(0, 2, 4, 0), 1000000);
        x.set(4, 0, 1);
        Check.good(x, 1, "weight hoarse * 41;", 1);
        due("half downwards", x.testimony(0, 7), 20);
        Check.good(x, 1, "weight 0 - 7;", 1);
        due("weight is held to 0", x.testimony(0, 7), 0);
        Check.good(x, 1, "weight 9999;", 1);
        due("weight is held to 99, then half", x.testimony(0, 7), 49);
    }

    private static void lawSums() {
        SungEvidence x = new SungEvidence();
        x.witness(1, 60, 7);
        String[] sums = {"1 + 2 * 3", "9 - 2 - 3", "7 * 9 / 2", "9 / 2 * 2", "0 - 7 / 2 + 10", "7 - 9 / 2 * 2 - 1",
            "2 * 3 * 4 - 5 * 4", "5 - 9 / 2 + 1", "breath * breath", "50 - nerve", "5 - 12 * 1 / 2 + 9",
            "9999 * 9999 * 9999 / 9999 * 0 + 8", "30 - breath - breath * 2 + 1"};
        int[] due = {7, 4, 31, 8, 7, 0, 4, 2, 49, 0, 8, 8, 10};
        for (int i = 0; i < sums.length; i++) {
            Check.good(x, 1, "shake " + sums[i] + ";", 1);
            due("shake " + sums[i], x.of(0, 6), due[i]);
        }
        Check.good(x, 1, "shake 30 when 9999 * 9999 * 43 < 0;", 1);
        due("ints wrap", x.of(0, 6), (9999 * 9999 * 43 < 0) ? 30 : 5);
        Check.good(x, 1, "shake 30 when nerve - 57 = 0 - 7 and 0 - 7 * 1 / 2 = 0 - 3;", 1);
        due("a part goes towards 0", x.of(0, 6), 30);
        x.set(3, 0, 3);
        Check.good(x, 1, "shake nerve * 1000 - 9999 / 1000 + 40;", 1);
        due("shake is held to 99", x.of(0, 6), 99);
    }

    private static void lawConditions() {
        SungEvidence x = new SungEvidence();
        x.witness(1, 60, 7);
        String[] so = {"1 = 1", "1 < 2", "2 > 1", "not 1 = 2", "1 = 1 or 1 = 2", "1 = 2 or 1 = 1", "1 = 1 and 2 = 2",
            "1 = 1 or 1 = 1 and 1 = 2", "1 = 2 and 1 = 2 or 1 = 1", "not (1 = 2 and 1 = 1)", "not not 1 = 1",
            "(1 = 1 or 1 = 2) and 1 = 1", "not 1 = 2 and 1 = 1", "1 = 2 or 1 = 2 or not (1 = 2 or 1 > 1)",
            "breath + 1 = 4 * 2", "0 - 1 < 0", "1 = 1 and 1 = 2 or 1 = 1 and 1 = 1 or 1 = 2"};
        String[] notSo = {"1 = 2", "2 < 2", "2 > 2", "not 1 = 1", "1 = 2 or 2 = 1", "1 = 1 and 1 = 2",
            "1 = 2 and 1 = 1 or 1 = 2", "(1 = 1 or 1 = 1) and 1 = 2", "not 1 = 1 or 1 = 2", "not (1 = 1 or 1 = 2)",
            "not not 1 = 2", "1 = 1 and not (1 = 1)", "not 1 = 2 and 1 = 2", "breath > 7", "0 - 1 > 0"};
        for (String b : so) {
            Check.good(x, 1, "shake 31 when " + b + "; shake 32;", 2);
            due("when " + b, x.of(0, 6), 31);
        }
        for (String b : notSo) {
            Check.good(x, 1, "weight 9; shake 31 when " + b + "; shake 32; shake 33;", 4);
            due("when " + b, x.of(0, 6), 32);
            Check.good(x, 1, "weight 9; shake 31 when " + b + ";", 2);
            due("none when " + b, x.of(0, 6), 5);
        }
    }

    private static void cross() {
        SungEvidence x = new SungEvidence();
        for (int w : new int[] {0, -1, 8, WILD[0], WILD[1]}) {
            due("cross of nobody", x.cross(w), NONE);
        }
        due("nothing is done", x.look(4) + x.look(10), 0);
        x.witness(1, 60, 1);
        due("cross(0)", x.cross(0), 35);
        due("cross(0)", x.cross(0), 20);
        due("cross(0)", x.cross(0), 5);
        due("0 at least", x.cross(0), 0);
        due("cross(1)", x.cross(1), NONE);
        due("no draws", x.look(5), 0);
        x.set(3, 0, 99);
        Check.good(x, 1, "shake 3 + fact + value + 9 * sung + nerve / 9;", 1);
        due("by the law", x.cross(0), 99 - 10 - 14);
        due("a line of the book", x.book(4, 1), 1);
        due("the witness", x.book(4, 2), 0);
    }

    private static void strike() {
        SungEvidence x = smallBench();
        due("strike of none", x.strike(0), false);
        x.call(0, 0, 10);
        x.call(1, 0, 10);
        for (int t : new int[] {-1, 2, WILD[0], WILD[1]}) {
            due("strike of none", x.strike(t), false);
        }
        due("strike(1)", x.strike(1), true);
        due("struck", x.testimony(1, 6), 1);
        due("the other is not", x.testimony(0, 6), 0);
        due("twice", x.strike(1), false);
        due("three lines", x.look(4), 3);
        due("what", x.book(2, 1), 2);
        due("the testimony", x.book(2, 2), 1);
        due("no fact", x.book(2, 3), NONE);
        due("no slips", x.book(2, 4), 0);
        due("bars stay", x.look(3), 9);
    }

    private static void days() {
        SungEvidence x = new SungEvidence();
        x.witness(1, 60, 1);
        x.witness(1, 60, 1);
        x.witness(1, 60, 1);
        x.set(3, 1, 95);
        for (int n : new int[] {0, -1, 31, WILD[0], WILD[1]}) {
            due("days that can't be", x.days(n), NONE);
        }
        due("nothing is done", x.look(1) + x.look(4) + x.look(5), 0);
        x.state(99);
        int[] draws = draws(99, 10, 90);
        for (int day = 0; day < 30; day++) {
            int hoarse = 0;
            for (int w = 0; w < 3; w++) {
                hoarse += draws[day * 3 + w] == 0 ? 1 : 0;
            }
            due("hoarse on day " + day, x.days(1), hoarse);
            for (int w = 0; w < 3; w++) {
                due("hoarse " + w, x.of(w, 4), draws[day * 3 + w] == 0 ? 1 : 0);
            }
            due("nerve", x.of(0, 3), Math.min(99, 57 + 7 * day));
            due("nerve 99 at most", x.of(1, 3), 99);
        }
        due("day", x.look(1), 30);
        for (int i = 0; i < 32; i++) {
            due("thirty days", x.days(30) >= 0, true);
        }
        for (int i = 0; i < 120; i++) {
            due("the day of rest " + i, x.book(i, 0), i);
        }
        due("day 990", x.look(1), 990);
        due("above 999", x.days(10), NONE);
        due("nothing is done", x.look(1), 990);
        due("up to 999", x.days(9) >= 0, true);
        due("day 999", x.look(1), 999);
        due("none more", x.days(1), NONE);
        due("the book is full", x.look(4), 120);
    }

    private static void trial() {
        SungEvidence x = smallBench();
        due("an empty trial", x.trial(), 0);
        due("can be undone", x.look(10), 1);
        Check.good(x, 2, "again 2 (call 0 on 0 in 9 again 2 (cross 1) call 0 on 1 in 9) rest", 9);
        due("what can be done", x.trial(), 7);
        due("testimonies", x.look(2), 2);
        due("lines", x.look(4), 7);
        int[] what = {0, 1, 1, 0, 1, 1, 3};
        for (int i = 0; i < what.length; i++) {
            due("deed " + i, x.book(i, 1), what[i]);
        }
        due("one deed to undo", x.look(10), 1);
        due("undo", x.undo(), true);
        due("all went back", x.look(2) + x.look(3) + x.look(4) + x.look(1), 0);
        due("nerve went back", x.of(1, 3), 99);
        for (int i = 0; i < 33; i++) {
            x.days(30);
        }
        Check.good(x, 2, "again 5 (rest rest) cross 0", 11);
        due("above 999 by all its rests", x.trial(), NONE);
        due("nothing is done", x.look(1), 990);
        due("no undo of it", x.look(10), 0);
        Check.good(x, 2, "again 9 (rest) cross 0", 10);
        due("up to 999", x.trial(), 10);
        due("day 999", x.look(1), 999);
        Check.good(x, 2, "cross 0", 1);
        due("no rest in it", x.trial(), 1);
        StringBuilder many = new StringBuilder();
        for (int i = 0; i < 60; i++) {
            many.append("rest ");
        }
        Check.good(x, 2, many.toString(), 60);
        Check.faulty(x, 2, many + "rest", 4, 304);
        Check.good(x, 2, "again 9(rest rest cross 0 again 1(rest)cross 0) again 5(again 3(rest))", 60);
        Check.faulty(x, 2, "again 9(rest rest cross 0 again 1(rest)cross 0) again 4(again 4(rest)) ", 4, 71);
        Check.faulty(x, 2, "again 9(again 9(again 9(again 9(rest cross 1 rest rest rest ))))", 4, 64);
        Check.faulty(x, 2, "again 9(again 9(again 9(again 9(rest cross 1 rest", 1, 49);
        Check.faulty(x, 2, "again 1(again 1(again 1(again 1(again 1(rest)))))", 3, 32);
        Check.good(x, 2, "again 1(again 1(again 1(again 1(rest) again 2(rest)))) again 1()", 3);
    }

    private static void of() {
        SungEvidence x = smallBench();
        x.call(0, 0, 10);
        x.call(0, 0, 10);
        x.strike(0);
        int[] due = {10, 30, 2, 89, 0, 2, 5};
        for (int i = 0; i < due.length; i++) {
            due("of(0, " + i + ")", x.of(0, i), due[i]);
        }
        due("of(0, 10)", x.of(0, 10), 0);
        due("of(2, 10)", x.of(2, 10), 1);
        due("of(0, 15)", x.of(0, 15), NONE);
        for (int what : new int[] {-1, 7, 8, 9, 16, WILD[0], WILD[1]}) {
            due("of another what", x.of(0, what), NONE - 1);
        }
        for (int w : new int[] {-1, 3, WILD[0], WILD[1]}) {
            due("of nobody", x.of(w, 0), NONE - 1);
        }
    }

    private static void testimony() {
        SungEvidence x = smallBench();
        x.call(2, 0, 20);
        x.call(0, 0, 10);
        int[] due = {0, 0, 0, 0, 2, 5, 0, 4};
        for (int i = 0; i < due.length; i++) {
            due("testimony(1, " + i + ")", x.testimony(1, i), due[i]);
        }
        due("testimony(0, 0)", x.testimony(0, 0), 2);
        due("testimony(0, 2)", x.testimony(0, 2), 1);
        due("testimony(0, 5)", x.testimony(0, 5), 2);
        for (int what : new int[] {-1, 8, WILD[0], WILD[1]}) {
            due("of another what", x.testimony(0, what), NONE);
        }
        for (int i : new int[] {-1, 2, WILD[0], WILD[1]}) {
            due("none such", x.testimony(i, 0), NONE);
        }
        x.set(4, 0, 1);
        due("half, if hoarse", x.testimony(1, 7), 2);
        x.set(2, 0, 0);
        x.strike(1);
        due("its weight, struck or not", x.testimony(1, 7), 2);
    }

    private static void bar() {
        SungEvidence x = smallBench();
        due("bar(0) of none", x.bar(0), NONE);
        x.call(0, 0, 10);
        due("bar(0)", x.bar(0), 11);
        due("a rest", x.bar(2), 0);
        due("the last", x.bar(4), 11);
        for (int i : new int[] {-1, 5, 200, WILD[0], WILD[1]}) {
            due("none such", x.bar(i), NONE);
        }
        due("undo", x.undo(), true);
        due("gone", x.bar(0), NONE);
    }

    private static void motive() {
        SungEvidence x = smallBench();
        due("four notes", x.motive(0, 0), 4);
        due("up 4", x.motive(0, 1), 4);
        due("up 3", x.motive(0, 2), 3);
        due("down 7", x.motive(0, 3), -7);
        due("no more", x.motive(0, 4), NONE - 99);
        due("same", x.motive(1, 1), 0);
        due("one note", x.motive(14, 0), 1);
        due("no step", x.motive(14, 1), NONE - 99);
        due("none", x.motive(2, 0), 0);
        due("none has no step", x.motive(2, 1), NONE - 99);
        for (int which : new int[] {-1, 24, WILD[0], WILD[1]}) {
            due("none such", x.motive(which, 0), NONE - 99);
        }
        for (int what : new int[] {-1, 8, 9, WILD[0], WILD[1]}) {
            due("another what", x.motive(0, what), NONE - 99);
        }
    }

    private static void book() {
        SungEvidence x = smallBench();
        due("no line", x.book(0, 0), NONE - 1);
        x.days(1);
        x.call(2, 0, 20);
        x.cross(1);
        x.strike(0);
        int[][] due = {{0, 3, NONE, NONE, 0}, {1, 0, 2, 0, 0}, {1, 1, 1, NONE, 0}, {1, 2, 0, NONE, 0}};
        for (int i = 0; i < due.length; i++) {
            for (int what = 0; what < 5; what++) {
                due("book(" + i + ", " + what + ")", x.book(i, what), due[i][what]);
            }
        }
        for (int i : new int[] {-1, 4, 120, WILD[0], WILD[1]}) {
            due("none such", x.book(i, 0), NONE - 1);
        }
        for (int what : new int[] {-1, 5, WILD[0], WILD[1]}) {
            due("another what", x.book(0, what), NONE - 1);
        }
        for (int i = 0; i < 115; i++) {
            x.cross(0);
        }
        due("119 lines", x.look(4), 119);
        x.cross(1);
        x.cross(2);
        due("no more than 120", x.look(4), 120);
        due("the 120th", x.book(119, 2), 1);
        due("none such", x.book(120, 2), NONE - 1);
        due("but it is done", x.of(2, 3), 99 - 5 - 15);
        due("undo", x.undo(), true);
        due("120 still", x.look(4), 120);
        due("undo", x.undo(), true);
        due("119 again", x.look(4), 119);
    }

    private static void keys() {
        SungEvidence x = smallBench();
        int[] due = {14, 9, 22};
        for (int what = 0; what < 3; what++) {
            due("keys(0, 0, " + what + ")", x.keys(0, 0, what), due[what]);
        }
        due("all keys but seven", x.keys(1, 0, 0), 53);
        due("keys(1, 0, 1)", x.keys(1, 0, 1), 0);
        due("keys(1, 0, 2)", x.keys(1, 0, 2), 52);
        due("another what", x.keys(0, 0, 3), NONE);
        due("another what", x.keys(0, 0, -1), NONE);
        due("no claim", x.keys(0, 1, 0), NONE);
        x.claim(0, 1, 1);
        due("no motive", x.keys(0, 1, 0), NONE);
        for (int wild : new int[] {-1, 6, WILD[0], WILD[1]}) {
            due("no such fact", x.keys(0, wild, 0), NONE);
            due("no such witness", x.keys(wild, 0, 0), NONE);
        }
        Check.good(x, 0, "motive 0 0 up 20; motive 0 1 down 21; motive 0 2 up 10 down 20;", 3);
        due("just one", x.keys(0, 0, 0), 1);
        due("lowest", x.keys(0, 0, 1), 9);
        due("highest", x.keys(0, 0, 2), 9);
        due("none", x.keys(2, 0, 0), 0);
        due("no lowest", x.keys(2, 0, 1), NONE);
        due("no highest", x.keys(2, 0, 2), NONE);
        x.claim(0, 0, 2);
        due("up and down", x.keys(0, 0, 0), 1);
        due("from the midst", x.keys(0, 0, 1), 19);
    }

    private static void fair() {
        SungEvidence x = smallBench();
        due("nobody slips", x.fair(0, 0, 9, 0), 1000000);
        x.set(3, 0, 50);
        due("fair(0, 0, 9, 0)", x.fair(0, 0, 9, 0), 817940);
        due("fair(0, 0, 9, 9)", x.fair(0, 0, 9, 9), 999993);
        Check.good(x, 1, "slip 1000 when note = 14; slip 500 when bar = 0; slip 0;", 3);
        due("none can't be", x.fair(0, 0, 9, 0), 0);
        due("one", x.fair(0, 0, 9, 1), 500000);
        due("two", x.fair(0, 0, 9, 2), 1000000);
        due("in another key", x.fair(0, 0, 10, 0), 500000);
        Check.good(x, 1, "slip 9999;", 1);
        due("slip is held to 1000", x.fair(0, 0, 9, 3), 0);
        due("all four slip", x.fair(0, 0, 9, 4), 1000000);
        Check.good(x, 1, "slip 1000 when note = 14; slip 500 when bar = 0; slip 0;", 3);
        for (int wild : new int[] {-1, 10, WILD[0], WILD[1]}) {
            due("no such e", x.fair(0, 0, 9, wild), NONE);
        }
        for (int key : new int[] {-1, 8, 23, 60, WILD[0], WILD[1]}) {
            due("no such key", x.fair(0, 0, key, 0), NONE);
        }
        due("no claim", x.fair(0, 1, 9, 0), NONE);
        due("no witness", x.fair(3, 0, 9, 0), NONE);
        due("no fact", x.fair(0, 6, 9, 0), NONE);
        due("no draws", x.look(5), 0);
        for (int i = 0; i < 20; i++) {
            x.call(2, 0, 20);
        }
        due("in thought it needs no room", x.fair(0, 0, 9, 2), 1000000);
    }

    private static void heard() {
        SungEvidence x = new SungEvidence();
        for (int wild : new int[] {-1, 61, WILD[0], WILD[1]}) {
            due("no note", x.heard(wild), NONE);
        }
        due("heard(0)", x.heard(0), 0);
        for (int i = 1; i <= 12; i++) {
            due("heard", x.heard(5 * i), i);
        }
        due("the 13th", x.heard(1), NONE);
        due("twelve", x.look(9), 12);
        due("none is then", x.heard(0), 0);
        due("none", x.look(9), 0);
        due("heard(60)", x.heard(60), 1);
    }

    private static void read() {
        SungEvidence x = new SungEvidence();
        due("nothing heard fits no motive", x.read(9, 0), 0);
        Check.good(x, 0, "motive 5 3 up 2 up 2; motive 0 1 up 4 same; motive 0 2 up 2 up 2 up 2; motive 3 3;", 4);
        due("nothing heard", x.read(9, 0), 0);
        x.heard(10);
        x.heard(12);
        x.heard(14);
        due("just one", x.read(0, 0), 1);
        due("by fact and value", x.read(0, 1), 23);
        due("all alike", x.read(0, 2), 0);
        due("with one unlike", x.read(1, 0), 2);
        due("the first", x.read(1, 1), 1);
        due("its unlike ones", x.read(1, 2), 1);
        due("the most", x.read(9, 0), 2);
        for (int wild : new int[] {-1, 10, WILD[0], WILD[1]}) {
            due("no such e", x.read(wild, 0), NONE);
        }
        for (int wild : new int[] {-1, 3, WILD[0], WILD[1]}) {
            due("another what", x.read(0, wild), NONE);
        }
        x.heard(0);
        x.heard(1);
        x.heard(60);
        due("none of two notes", x.read(9, 0), 0);
        due("no first", x.read(9, 1), NONE);
        due("no unlike ones", x.read(9, 2), NONE);
        x.heard(0);
        x.heard(60);
        due("one note", x.read(0, 1), 15);
        Check.good(x, 0, "motive 1 0 up 20 same;", 1);
        x.heard(0);
        x.heard(1);
        x.heard(10);
        x.heard(10);
        due("from no key that is below 0", x.read(1, 0), 0);
        due("but so with the first alone", x.read(2, 2), 2);
        Check.good(x, 0, "motive 1 0 down 1 same;", 1);
        x.heard(0);
        x.heard(5);
        x.heard(60);
        x.heard(60);
        due("from no key that is above 59", x.read(1, 0), 0);
        due("but so with the first alone", x.read(2, 2), 2);
        readKeepsToNotes();
    }

    /** What lies beyond the notes is no note that is unlike: from such a key the motive does not fit. */
    private static void readKeepsToNotes() {
        SungEvidence x = new SungEvidence();
        Check.good(x, 0, "motive 5 1 up 24 up 24 up 24; motive 0 0 down 24 down 24 down 24;", 2);
        hear(x, 1, 1, 1, 1);
        due("from no key, whatever may be unlike", x.read(9, 0), 0);
        due("no first", x.read(9, 1), NONE);
        due("no unlike ones", x.read(9, 2), NONE);
        Check.good(x, 0, "motive 5 1 up 24 up 24;", 1);
        hear(x, 20, 44, 60);
        due("key 19 leaves the notes above", x.read(1, 0), 0);
        due("two unlike from key 11", x.read(2, 2), 2);
        hear(x, 12, 36, 60);
        due("up to the highest note", x.read(0, 1), 21);
        hear(x, 13, 37, 48);
        due("key 12 leaves the notes above", x.read(2, 0), 0);
        due("all unlike from a key that it has", x.read(3, 2), 3);
        Check.good(x, 0, "motive 2 3 down 20 up 20;", 1);
        hear(x, 20, 1, 20);
        due("key 19 leaves the notes below", x.read(1, 0), 0);
        due("two unlike from key 20", x.read(2, 2), 2);
        hear(x, 21, 1, 21);
        due("down to the lowest note", x.read(0, 1), 11);
    }

    private static void hear(SungEvidence x, int... notes) {
        due("none heard", x.heard(0), 0);
        for (int i = 0; i < notes.length; i++) {
            due("heard", x.heard(notes[i]), i + 1);
        }
    }

    private static void duet() {
        SungEvidence x = smallBench();
        x.call(0, 0, 9);
        x.call(1, 0, 12);
        x.call(2, 0, 20);
        due("10 14 - 17 with 13 17 20 13", x.duet(0, 1), 3);
        due("either way", x.duet(1, 0), 3);
        due("the shorter tells", x.duet(1, 2), 2);
        due("with itself", x.duet(0, 0), 4);
        x.set(0, 0, 1 << 3);
        due("two are 3 apart", x.duet(0, 1), 2);
        x.set(0, 0, 0);
        due("nothing sounds", x.duet(0, 0), 0);
        x.strike(0);
        x.set(0, 0, 1);
        due("struck ones sound too", x.duet(0, 0), 4);
        for (int wild : new int[] {-1, 3, WILD[0], WILD[1]}) {
            due("none such", x.duet(0, wild), NONE);
            due("none such", x.duet(wild, 0), NONE);
        }
        x.set(3, 1, 0);
        Check.good(x, 1, "slip 1000;", 1);
        x.call(1, 0, 0);
        due("0 counts as a rest", x.duet(3, 3), 2);
    }

    private static void best() {
        SungEvidence x = smallBench();
        x.call(0, 0, 9);
        due("from 1 as well as from 10", x.best(1, 0, 0, 0), 0);
        due("best(1, 0, 0, 1)", x.best(1, 0, 0, 1), 3);
        due("his lowest key at 20", x.best(2, 0, 0, 0), 21);
        due("both notes", x.best(2, 0, 0, 1), 2);
        x.set(0, 0, 1 << 11);
        due("11 apart", x.best(1, 0, 0, 1), 2);
        due("of several the lowest", x.best(1, 0, 0, 0), 20);
        x.set(0, 0, 0);
        due("nothing sounds: the lowest", x.best(0, 0, 0, 0), 9);
        due("in none", x.best(0, 0, 0, 1), 0);
        due("no testimony", x.best(0, 0, 1, 0), NONE);
        due("no testimony", x.best(0, 0, -1, 0), NONE);
        due("no witness", x.best(3, 0, 0, 0), NONE);
        due("no fact", x.best(0, 6, 0, 0), NONE);
        due("no claim", x.best(0, 1, 0, 0), NONE);
        due("another what", x.best(0, 0, 0, 2), NONE);
        due("another what", x.best(0, 0, 0, -1), NONE);
        Check.good(x, 0, "motive 0 0 up 21;", 1);
        due("in no key", x.best(0, 0, 0, 0), NONE);
        due("in no key", x.best(0, 0, 0, 1), NONE);
        due("no motive", x.best(2, 0, 0, 0), NONE);
    }

    private static void canon() {
        SungEvidence x = smallBench();
        x.call(0, 0, 9);
        int[] due = {2, 1, 2, 1, 0};
        for (int d = 1; d <= due.length; d++) {
            due("canon(0, " + d + ") of 10 14 - 17 10", x.canon(0, d), due[d - 1]);
        }
        due("canon(0, 30)", x.canon(0, 30), 0);
        for (int wild : new int[] {-1, 0, 31, WILD[0], WILD[1]}) {
            due("no such d", x.canon(0, wild), NONE);
        }
        for (int wild : new int[] {-1, 1, WILD[0], WILD[1]}) {
            due("none such", x.canon(wild, 1), NONE);
        }
    }

    private static void weighed() {
        SungEvidence x = smallBench();
        due("nothing", x.weighed(0, 0), 0);
        x.call(0, 0, 9);
        x.call(1, 0, 9);
        x.call(2, 0, 20);
        due("two of 4", x.weighed(0, 0), 8);
        due("one of 4", x.weighed(0, 1), 4);
        due("of none", x.weighed(0, 2), 0);
        x.set(4, 1, 1);
        Check.good(x, 1, "weight 5 + day when slips = 0;", 1);
        due("half downwards", x.weighed(0, 0), 7);
        x.set(4, 1, 0);
        Check.good(x, 1, "slip 1000 when bar < 2;", 1);
        x.call(1, 0, 9);
        due("slips of the third", x.testimony(3, 3), 2);
        due("more slips than flats", x.weighed(0, 0), 8);
        x.set(2, 0, 2);
        due("as many as flats", x.weighed(0, 0), 10);
        x.strike(0);
        due("struck", x.weighed(0, 0), 6);
        for (int wild : new int[] {-1, 6, WILD[0], WILD[1]}) {
            due("no such fact", x.weighed(wild, 0), NONE);
        }
        for (int wild : new int[] {-1, 4, WILD[0], WILD[1]}) {
            due("no such value", x.weighed(0, wild), NONE);
        }
    }

    private static void found() {
        SungEvidence x = smallBench();
        x.set(1, 0, 4);
        due("nothing is found", x.found(0), NONE);
        x.call(2, 0, 20);
        due("as much as is needed", x.found(0), 1);
        x.set(1, 0, 5);
        due("less than is needed", x.found(0), NONE);
        x.set(1, 0, 1);
        x.call(0, 0, 9);
        due("two alike", x.found(0), NONE);
        x.call(1, 0, 9);
        due("more than the other", x.found(0), 0);
        due("another fact", x.found(1), NONE);
        for (int wild : new int[] {-1, 6, WILD[0], WILD[1]}) {
            due("no such fact", x.found(wild), NONE);
        }
    }

    private static void calls() {
        SungEvidence x = smallBench();
        x.set(1, 0, 4);
        due("one", x.calls(0, 0, 0), 1);
        due("the least set", x.calls(0, 0, 1), 1);
        x.set(1, 0, 5);
        due("two", x.calls(0, 0, 0), 2);
        due("both", x.calls(0, 0, 1), 3);
        due("not enough", x.calls(0, 1, 0), NONE);
        due("not enough", x.calls(0, 1, 1), NONE);
        x.call(2, 0, 20);
        x.set(1, 0, 4);
        due("found as it is", x.calls(0, 1, 0), 0);
        due("nobody", x.calls(0, 1, 1), 0);
        due("more than the other is needed", x.calls(0, 0, 0), 2);
        x.set(4, 0, 1);
        due("he adds half: 6", x.calls(0, 0, 0), 2);
        Check.good(x, 1, "weight 9 when nerve = 98; weight 4;", 2);
        x.set(3, 1, 98);
        due("the heavier one alone", x.calls(0, 0, 1), 2);
        due("one", x.calls(0, 0, 0), 1);
        Check.good(x, 0, "motive 0 0 up 24 up 24;", 1);
        due("one who can sing it", x.calls(0, 0, 1), 2);
        due("another what", x.calls(0, 0, 2), NONE);
        Check.good(x, 0, "motive 0 0 up 20; motive 0 1 same;", 2);
        x.claim(1, 0, 1);
        due("one who can sing it in one key alone", x.keys(0, 0, 0), 1);
        x.strike(0);
        x.set(4, 0, 0);
        due("is enough", x.calls(0, 0, 1), 1);
        Check.good(x, 0, "motive 0 0 up 24 up 24 up 24;", 1);
        due("nobody can sing it", x.calls(0, 0, 0), NONE);
        due("another what", x.calls(0, 0, 2), NONE);
        due("another what", x.calls(0, 1, -1), NONE);
        for (int wild : new int[] {-1, 6, WILD[0], WILD[1]}) {
            due("no such fact", x.calls(wild, 0, 0), NONE);
            due("no such value", x.calls(0, wild, 0), NONE);
        }
        due("nothing stays", x.look(2), 1);
        SungEvidence y = new SungEvidence();
        for (int i = 0; i < 8; i++) {
            y.witness(1, 60, 1);
            y.claim(i, 5, 3);
        }
        Check.good(y, 0, "motive 5 3;", 1);
        y.set(1, 0, 32);
        due("all eight", y.calls(5, 3, 0), 8);
        due("the whole set", y.calls(5, 3, 1), 255);
        y.set(1, 0, 33);
        due("not enough", y.calls(5, 3, 1), NONE);
    }

    private static void choir() {
        SungEvidence x = new SungEvidence();
        due("nobody", x.choir(0), 0);
        due("no set", x.choir(1), 0);
        for (int i = 0; i < 4; i++) {
            x.witness(1, 60, 1);
        }
        due("all without claims", x.choir(1), 15);
        x.claim(0, 0, 1);
        x.claim(1, 0, 2);
        due("one of two", x.choir(0), 3);
        due("the least set", x.choir(1), 13);
        x.claim(2, 5, 1);
        x.claim(3, 5, 2);
        due("two of four", x.choir(0), 2);
        due("the least set", x.choir(1), 5);
        x.claim(2, 0, 2);
        due("another", x.choir(1), 6);
        for (int wild : new int[] {-1, 2, WILD[0], WILD[1]}) {
            due("another what", x.choir(wild), NONE);
        }
    }

    private static void worlds() {
        SungEvidence x = new SungEvidence();
        due("all worlds", x.worlds(0, 0), 4096);
        due("nothing is sure", x.worlds(0, 1), 0);
        due("ask the first", x.worlds(0, 2), 0);
        x.witness(1, 60, 1);
        x.witness(1, 60, 1);
        x.claim(0, 0, 1);
        x.claim(0, 1, 1);
        due("both are so", x.worlds(0, 0), 256);
        due("sure of two", x.worlds(0, 1), 3);
        due("ask the third", x.worlds(0, 2), 2);
        due("he may lie", x.worlds(1, 0), 4096);
        x.claim(1, 0, 2);
        due("no world", x.worlds(0, 0), 0);
        due("all facts are sure", x.worlds(0, 1), 63);
        due("nothing to ask", x.worlds(0, 2), NONE);
        due("one of them lies", x.worlds(1, 0), 256 + 1024);
        due("nothing is sure", x.worlds(1, 1), 0);
        due("ask what halves best", x.worlds(1, 2), 2);
        due("both lie", x.worlds(2, 0), 4096);
        due("most liars", x.worlds(8, 0), 4096);
        for (int f = 0; f < 6; f++) {
            x.claim(0, f, f % 4);
            x.claim(1, f, f % 4);
        }
        due("one world", x.worlds(0, 0), 1);
        due("all are sure", x.worlds(0, 1), 63);
        due("nothing to ask", x.worlds(0, 2), NONE);
        due("who lies of one lies", x.worlds(1, 0), 1);
        for (int wild : new int[] {-1, 9, WILD[0], WILD[1]}) {
            due("no such e", x.worlds(wild, 0), NONE);
        }
        for (int wild : new int[] {-1, 3, WILD[0], WILD[1]}) {
            due("another what", x.worlds(0, wild), NONE);
        }
    }

    private static void chord() {
        SungEvidence x = new SungEvidence();
        x.witness(20, 25, 1);
        x.witness(10, 24, 1);
        x.witness(27, 28, 1);
        x.witness(1, 60, 1);
        x.witness(1, 60, 1);
        int[] lowest = {0, 0, 0};
        int count = 0;
        for (int b = 10; b <= 24; b++) {
            for (int c = 27; c <= 28; c++) {
                for (int d = 1; d <= 60; d++) {
                    if (fits(20, b) && fits(20, c) && fits(20, d) && fits(b, c) && fits(b, d) && fits(c, d)) {
                        count++;
                        lowest = count == 1 ? new int[] {b, c, d} : lowest;
                    }
                }
            }
        }
        due("there are some", count > 0, true);
        due("how many", x.chord(0, 1, 2, 3, 20, 0), count);
        for (int i = 0; i < 3; i++) {
            due("the lowest", x.chord(0, 1, 2, 3, 20, 1 + i), lowest[i]);
        }
        int[][] alike = {{0, 0, 2, 3}, {0, 1, 0, 3}, {0, 1, 2, 0}, {0, 1, 1, 3}, {0, 1, 2, 1}, {0, 1, 2, 2}};
        for (int[] four : alike) {
            due("alike", x.chord(four[0], four[1], four[2], four[3], 20, 0), NONE);
        }
        for (int wild : new int[] {-1, 7, WILD[0], WILD[1]}) {
            due("no first", x.chord(wild, 1, 2, 3, 20, 0), NONE);
            due("no second", x.chord(0, wild, 2, 3, 20, 0), NONE);
            due("no third", x.chord(0, 1, wild, 3, 20, 0), NONE);
            due("no last", x.chord(0, 1, 2, wild, 20, 0), NONE);
            due("another what", x.chord(0, 1, 2, 3, 20, wild), NONE);
        }
        for (int note : new int[] {19, 26, 0, 61, WILD[0], WILD[1]}) {
            due("not in the first one's range", x.chord(0, 1, 2, 3, note, 0), NONE);
        }
        due("another what", x.chord(0, 1, 2, 3, 20, 4), NONE);
        x.set(0, 0, 4095);
        due("all sound", x.chord(0, 3, 4, 1, 25, 0), 60 * 60 * 15);
        due("lowest of all", x.chord(0, 3, 4, 1, 25, 3), 10);
        x.witness(1, 1, 1);
        x.witness(60, 60, 1);
        due("the lowest note of all", x.chord(0, 3, 4, 5, 25, 3), 1);
        due("the highest note of all", x.chord(0, 3, 4, 6, 25, 3), 60);
        x.set(0, 0, 0);
        due("none sound", x.chord(0, 3, 4, 1, 25, 0), 0);
        due("no lowest", x.chord(0, 3, 4, 1, 25, 1), NONE);
        due("no lowest", x.chord(0, 3, 4, 1, 25, 2), NONE);
        due("no lowest", x.chord(0, 3, 4, 1, 25, 3), NONE);
    }

    private static boolean fits(int a, int b) {
        int far = Math.abs(a - b) % 12;
        return far == 0 || far == 3 || far == 4 || far == 5 || far == 7 || far == 8 || far == 9;
    }

    private static void undo() {
        SungEvidence x = smallBench();
        due("nothing to undo", x.undo(), false);
        x.call(0, 0, 9);
        x.cross(0);
        x.strike(0);
        x.days(1);
        Check.good(x, 1, "slip 0;", 1);
        x.heard(7);
        due("the law and notes heard forget nothing", x.look(10), 4);
        due("undo the day", x.undo(), true);
        due("day", x.look(1), 0);
        due("state", x.look(5) != 0, true);
        due("undo the striking", x.undo(), true);
        due("not struck", x.testimony(0, 6), 0);
        due("undo the crossing", x.undo(), true);
        due("nerve", x.of(0, 3), 94);
        due("undo the call", x.undo(), true);
        due("nerve", x.of(0, 3), 99);
        due("state", x.look(5), 0);
        due("record, book, testimonies", x.look(2) + x.look(3) + x.look(4), 0);
        due("nothing to undo", x.undo(), false);
        due("the law stays", x.look(7), 1);
        due("notes heard stay", x.look(9), 1);
        for (int i = 0; i < 9; i++) {
            x.cross(1);
        }
        due("six are kept", x.look(10), 6);
        for (int i = 0; i < 6; i++) {
            due("undo " + i, x.undo(), true);
        }
        due("no seventh", x.undo(), false);
        due("three lines stay", x.look(4), 3);
        due("nerve behind three crossings", x.of(1, 3), 99 - 45);
        due("days(30)", x.days(30) >= 0, true);
        due("each day by itself", x.look(10), 6);
        due("undo", x.undo(), true);
        due("29 days", x.look(1), 29);
    }

    private static void undoForgets() {
        for (int i = 0; i < 17; i++) {
            SungEvidence x = smallBench();
            x.call(0, 0, 9);
            x.cross(0);
            boolean forgets = true;
            switch (i) {
                case 0: x.state(3); break;
                case 1: x.witness(1, 60, 1); break;
                case 2: x.claim(0, 0, 0); break;
                case 3: x.set(0, 0, 953); break;
                case 4: x.set(3, 0, 50); break;
                case 5: Check.good(x, 0, "motive 0 0;", 1); break;
                case 6: Check.good(x, 2, "cross 0", 1); break;
                default: forgets = false; break;
            }
            switch (i) {
                case 7: Check.good(x, 1, "slip 5;", 1); break;
                case 8: x.heard(5); break;
                case 9: x.heard(0); break;
                case 10: x.image(true); break;
                case 11: x.image(false); break;
                case 12: Check.faulty(x, 0, "motive", 1, 6); break;
                case 13: x.set(1, 0, 0); break;
                case 14: x.claim(7, 0, 0); break;
                case 15: x.witness(0, 0, 0); break;
                case 16: Check.feed(x, "motive 0 0;"); break;
                default: break;
            }
            due("what can be undone behind " + i, x.look(10), forgets ? 0 : 2);
            due("undo behind " + i, x.undo(), !forgets);
        }
    }

    private static void image() {
        SungEvidence x = smallBench();
        x.call(0, 0, 9);
        x.heard(5);
        Check.good(x, 1, "slip 5;", 1);
        Check.good(x, 2, "cross 0", 1);
        x.call(1, 0, 9);
        due("image(true)", x.image(true), true);
        due("its taking forgets nothing", x.look(10), 1);
        int[] before = new int[14];
        for (int i = 0; i < 14; i++) {
            before[i] = x.look(i);
        }
        for (int time = 0; time < 2; time++) {
            x.witness(1, 60, 1);
            x.claim(0, 0, 3);
            x.set(0, 0, 1);
            x.set(1, 0, 77);
            x.set(2, 0, 7);
            x.set(4, 1, 1);
            x.days(2);
            x.call(2, 0, 20);
            x.strike(0);
            x.heard(0);
            Check.good(x, 0, "motive 0 0; motive 0 1;", 2);
            Check.good(x, 1, "", 0);
            Check.good(x, 2, "", 0);
            Check.faulty(x, 2, "up", 1, 0);
            Check.feed(x, "motive");
            due("image(false)", x.image(false), true);
            for (int i = 0; i < 14; i++) {
                due("look(" + i + ") as it was", x.look(i), i == 10 ? 0 : before[i]);
            }
            due("nothing to undo", x.undo(), false);
            due("claim", x.of(0, 10), 0);
            due("hoarse", x.of(1, 4), 0);
            due("nerve", x.of(1, 3), 94);
            due("not struck", x.testimony(0, 6), 0);
            due("motive", x.motive(0, 3), -7);
            due("book", x.book(1, 2), 1);
            due("bar", x.bar(0), 10);
            due("the fault is not of it", x.fault(0), 1);
            due("the tape is not of it", x.end(6), true);
            due("nor longer", x.end(7), false);
            x.end(0);
        }
        x.image(true);
        x.cross(0);
        x.image(true);
        x.cross(0);
        due("the latest image", x.image(false), true);
        due("nerve", x.of(0, 3), 94 - 15);
        due("nothing to undo", x.look(10), 0);
        due("trial of the image", x.trial(), 1);
        imageOfWhatIsUndone();
    }

    /** What was sung, written and heard when the image was taken, though other things took its place since. */
    private static void imageOfWhatIsUndone() {
        SungEvidence x = smallBench();
        x.call(0, 0, 9);
        x.heard(10);
        x.heard(10);
        x.image(true);
        due("undo", x.undo(), true);
        x.call(1, 0, 30);
        x.heard(0);
        x.heard(10);
        x.heard(11);
        due("another bar", x.bar(0), 31);
        due("another witness", x.book(0, 2), 1);
        due("not heard", x.read(0, 0), 0);
        due("image(false)", x.image(false), true);
        due("the bar", x.bar(0), 10);
        due("the rest", x.bar(2), 0);
        due("the witness", x.testimony(0, 0), 0);
        due("in the book", x.book(0, 2), 0);
        due("heard", x.read(0, 1), 1);
    }

    private static void look() {
        SungEvidence x = smallBench();
        x.call(0, 0, 9);
        x.days(3);
        x.heard(4);
        Check.good(x, 1, "slip 1; slip 2;", 2);
        int[] due = {3, 3, 1, 5, 4, x.look(5), 3, 2, 0, 1, 4, 953, 10, 1};
        for (int i = 0; i < due.length; i++) {
            due("look(" + i + ")", x.look(i), due[i]);
        }
        int state = x.look(5);
        due("state as it is", x.state(state), state);
        for (int wild : new int[] {-1, 14, WILD[0], WILD[1]}) {
            due("another what", x.look(wild), NONE);
        }
    }
}
