import java.io.IOException;

/** The boundaries that promises 1 to 35 name: what is answered there, one step beyond, and what stays as it was. */
public final class EdgesOfPromises {
    private static final int NONE = Edges.NONE;
    private static final int BLANKS = 0x20202020;

    private EdgesOfPromises() {
    }

    public static void main(String[] args) throws IOException {
        Sentences.open(args[0]);
        newObject();
        state();
        witness();
        claim();
        set();
        feed();
        end();
        text();
        fault();
        call();
        crossAndStrike();
        days();
        trial();
        of();
        testimonyAndBar();
        motive();
        book();
        keysAndFair();
        heardAndRead();
        duetBestAndCanon();
        weighedAndFound();
        callsAndChoir();
        worlds();
        chord();
        undo();
        image();
        look();
        String[] parts = new String[35];
        for (int i = 0; i < parts.length; i++) {
            parts[i] = "Promise " + (i + 1);
        }
        Sentences.close("EdgesOfPromises", parts);
    }

    private static void newObject() {
        Sentences.of("Promise 1", "An empty bench.", x -> {
            int[] looks = {0, 0, 0, 0, 0, 0, 0, 0, 0, 0, 0, 953, 10, 1};
            for (int what = 0; what < looks.length; what++) {
                x.look(what).is(looks[what]);
            }
            x.of(0, 0).is(NONE - 1);
            x.testimony(0, 0).is(NONE);
            x.bar(0).is(NONE);
            x.book(0, 0).is(NONE - 1);
            for (int which = 0; which < 24; which++) {
                x.motive(which, 0).is(0);
            }
            x.fault(0).is(0);
            x.fault(1).is(NONE);
            x.end(1).isRefused();
            x.undo().isRefused();
            x.image(false).isRefused();
            x.read(9, 0).is(0);
            x.choir(0).is(0);
            x.worlds(0, 0).is(4096);
        });
        Sentences.of("Promise 1", "`SungEvidence()`: An empty bench.", x -> {
            Edges.fullBench(x);
            LoggedBench y = new LoggedBench();
            y.look(0).is(0);
            y.look(5).is(0);
            y.image(false).isRefused();
            y.witness(1, 60, 9).is(0);
            x.look(0).is(3);
        });
    }

    private static void state() {
        Sentences.of("Promise 2", "STATE is told: what it was.", x -> {
            int before = 0;
            for (int v : new int[] {1, -1, Integer.MAX_VALUE, Integer.MIN_VALUE, 0, 0}) {
                x.state(v).is(before);
                x.look(5).is(v);
                before = v;
            }
            x.witness(1, 60, 1);
            x.days(1);
            x.state(0).is(Edges.stateBehind(0, 1));
            x.cross(0);
            x.state(3).is(0);
            x.undo().isRefused();
            x.look(5).is(3);
        });
    }

    private static void witness() {
        Sentences.of("Promise 3", "A WITNESS: the number; NONE if one can't be, or there are eight.", x -> {
            int[][] wrong = {{0, 60, 9}, {1, 61, 9}, {31, 30, 9}, {1, 60, 0}, {1, 60, 10}};
            for (int w = 0; w < 8; w++) {
                for (int[] bad : wrong) {
                    x.witness(bad[0], bad[1], bad[2]).is(NONE);
                }
                x.witness(bad(wrong, w, 0), bad(wrong, w, 1), bad(wrong, w, 2)).isRefused(NONE);
                x.look(0).is(w);
                x.witness(1, 60, 9).is(w);
                x.look(0).is(w + 1);
                x.of(w, 3).is(50);
                x.of(w, 4).is(0);
                x.of(w, 5).is(0);
                x.of(w, 10).is(NONE);
                x.of(w, 15).is(NONE);
            }
            x.witness(1, 60, 9).isRefused(NONE);
            x.witness(0, 60, 9).isRefused(NONE);
            x.look(0).is(8);
        });
        Sentences.of("Promise 3", "NONE if one can't be", x -> {
            Edges.fullBench(x);
            for (int far : new int[] {Integer.MIN_VALUE, Integer.MAX_VALUE}) {
                x.witness(far, 60, 9).isRefused(NONE);
                x.witness(1, far, 9).isRefused(NONE);
                x.witness(1, 60, far).isRefused(NONE);
            }
            x.witness(1, 60, 9).is(3);
        });
        Sentences.of("Promise 3", "A WITNESS: the number", x -> {
            x.witness(1, 60, 9).is(0);
            x.set(3, 0, 9);
            x.set(4, 0, 1);
            x.claim(0, 0, 1);
            x.image(true).is(true);
            x.witness(1, 60, 9).is(1);
            x.set(3, 1, 9);
            x.set(4, 1, 1);
            x.claim(1, 2, 3);
            x.image(false).is(true);
            x.witness(2, 59, 8).is(1);
            x.of(1, 3).is(50);
            x.of(1, 4).is(0);
            x.of(1, 12).is(NONE);
        });
    }

    private static int bad(int[][] wrong, int which, int i) {
        return wrong[which % wrong.length][i];
    }

    private static void claim() {
        Sentences.of("Promise 4", "A CLAIM of a WITNESS (value NONE: none): true; false if one can't be.", x -> {
            x.claim(0, 0, 0).isRefused();
            Edges.fullBench(x);
            for (int w : Edges.beyond(0, 2)) {
                x.claim(w, 0, 0).isRefused();
            }
            for (int fact : Edges.beyond(0, 5)) {
                x.claim(0, fact, 0).isRefused();
            }
            for (int value : Edges.beyond(NONE, 3)) {
                x.claim(0, 0, value).isRefused();
            }
            x.claim(2, 5, 3).is(true);
            x.of(2, 15).is(3);
            x.claim(2, 5, 0).is(true);
            x.of(2, 15).is(0);
            x.claim(2, 5, NONE).is(true);
            x.of(2, 15).is(NONE);
            x.claim(2, 5, NONE).is(true);
            x.claim(0, 0, 3).is(true);
            x.of(0, 10).is(3);
            x.of(1, 10).is(0);
            x.of(0, 11).is(NONE);
        });
    }

    private static void set() {
        Sentences.of("Promise 5", "What 0 SOUND (a set), 1 NEED, 2 FLATS (who not asked), 3 NERVE, 4 HOARSE of"
            + " WITNESS who: true;", x -> {
            for (int who : new int[] {Integer.MIN_VALUE, -1, 0, 8, Integer.MAX_VALUE}) {
                x.set(0, who, 5).is(true);
                x.set(1, who, 6).is(true);
                x.set(2, who, 7).is(true);
                x.look(11).is(5);
                x.look(12).is(6);
                x.look(13).is(7);
                x.set(0, who, 0).is(true);
                x.set(1, who, 1).is(true);
                x.set(2, who, 0).is(true);
            }
            x.witness(1, 60, 9);
            x.witness(1, 60, 9);
            x.set(3, 1, 99).is(true);
            x.set(4, 1, 1).is(true);
            x.of(0, 3).is(50);
            x.of(0, 4).is(0);
            x.of(1, 3).is(99);
            x.of(1, 4).is(1);
        });
        Sentences.of("Promise 5", "false if one can't be, or another what.", x -> {
            x.set(3, 0, 50).isRefused();
            x.set(4, 0, 0).isRefused();
            Edges.fullBench(x);
            for (int what : Edges.beyond(0, 4)) {
                x.set(what, 0, 1).isRefused();
            }
            int[][] bounds = {{0, 4095}, {1, 999}, {0, 9}, {0, 99}, {0, 1}};
            for (int what = 0; what < 5; what++) {
                for (int v : Edges.beyond(bounds[what][0], bounds[what][1])) {
                    x.set(what, 0, v).isRefused();
                }
            }
            for (int who : Edges.beyond(0, 2)) {
                x.set(3, who, 50).isRefused();
                x.set(4, who, 1).isRefused();
            }
            x.set(3, 2, 50).is(true);
            x.set(4, 2, 1).is(true);
        });
    }

    private static void feed() {
        Sentences.of("Promise 6", "Twenty bytes come behind the TAPE, of each number the highest first: how many it"
            + " has.", x -> {
            x.feed(0x6d6f7469, 0x76652030, 0x20302075, 0x70203120, 0x646f776e).is(20);
            x.feed(0x2032203b, BLANKS, BLANKS, BLANKS, 0x3b202020).is(40);
            x.end(36).is(true);
            x.text(0).is(1);
            x.motive(0, 1).is(1);
            x.motive(0, 2).is(-2);
            x.feed(-1, -1, -1, -1, -1).is(20);
            x.text(0).is(NONE);
            x.fault(1).is(0);
            x.feed(BLANKS, BLANKS, BLANKS, BLANKS, 0x20202080).is(20);
            x.text(1).is(NONE);
            x.fault(1).is(19);
            x.feed(BLANKS, BLANKS, BLANKS, BLANKS, BLANKS).is(20);
            x.end(7).is(true);
            x.feed(BLANKS, BLANKS, BLANKS, BLANKS, BLANKS).is(27);
        });
        Sentences.of("Promise 6", "NONE, and nothing comes, if there would be more than 400.", x -> {
            Edges.fullBench(x);
            x.end(0).is(true);
            for (int i = 1; i <= 20; i++) {
                x.feed(BLANKS, BLANKS, BLANKS, BLANKS, BLANKS).is(20 * i);
            }
            x.feed(0x3b3b3b3b, 0, 0, 0, 0).isRefused(NONE);
            x.end(399).is(true);
            x.feed(0x3b3b3b3b, 0, 0, 0, 0).isRefused(NONE);
            x.end(381).is(true);
            x.feed(0x3b3b3b3b, 0, 0, 0, 0).isRefused(NONE);
            x.end(382).isRefused();
            x.end(380).is(true);
            x.feed(BLANKS, BLANKS, BLANKS, BLANKS, 0x2020203b).is(400);
            x.feed(BLANKS, BLANKS, BLANKS, BLANKS, BLANKS).isRefused(NONE);
            x.text(1).is(NONE);
            x.fault(1).is(399);
            x.feed(BLANKS, BLANKS, BLANKS, BLANKS, BLANKS).is(20);
        });
    }

    private static void end() {
        Sentences.of("Promise 7", "The TAPE has its first n bytes alone: true;", x -> {
            x.end(0).is(true);
            x.put("motive 0 0;;");
            x.end(12).is(true);
            x.end(11).is(true);
            x.end(12).isRefused();
            x.text(0).is(1);
            x.end(0).is(true);
            x.put("motive 0 0;motive 0 1;");
            x.end(11).is(true);
            x.text(0).is(1);
            x.put("motive");
            x.end(0).is(true);
            x.text(0).is(0);
        });
        Sentences.of("Promise 7", "false, changing nothing, if it has not so many, or n is below 0.", x -> {
            x.end(1).isRefused();
            x.end(-1).isRefused();
            Edges.fullBench(x);
            x.end(12).isRefused();
            x.end(400).isRefused();
            x.end(-1).isRefused();
            x.end(Integer.MIN_VALUE).isRefused();
            x.end(Integer.MAX_VALUE).isRefused();
            x.end(11).is(true);
            x.text(0).is(1);
        });
    }

    private static void text() {
        Sentences.of("Promise 8", "The TAPE, empty then, is TEXT k: how many lines, deeds.", x -> {
            x.witness(1, 60, 9);
            String[] texts = {"motive 0 0;motive 0 1;", "slip 1;shake 1;weight 1;", "cross 0 again 3(rest)"};
            for (int k = 0; k < 3; k++) {
                x.tell(k, texts[k]).is(k + 2);
                x.look(6 + k).is(k + 2);
                x.end(1).isRefused();
                x.text(k).is(0);
                x.look(6 + k).is(0);
            }
            x.tell(0, Edges.motives(16)).is(16);
            x.tell(1, Edges.repeated("slip 1;", 16)).is(16);
            x.tell(2, "again 6(again 9(rest)rest)").is(60);
        });
        Sentences.of("Promise 8", "NONE: no such one (fault() tells 0)", x -> {
            for (int k : Edges.beyond(0, 2)) {
                LoggedBench y = new LoggedBench();
                Edges.fullBench(y);
                y.end(0);
                y.faulty(0, "?", 1, 0);
                y.faulty(k, "motive 0 0;", 0, NONE);
                y.end(1).isRefused();
                y.feed(BLANKS, BLANKS, BLANKS, BLANKS, BLANKS).is(20);
            }
            x.text(3).is(NONE);
            x.text(-1).is(NONE);
        });
        Sentences.of("Promise 8", "or a FAULT (it stays as it was).", x -> {
            Edges.fullBench(x);
            x.end(0);
            x.look(10).is(5);
            x.faulty(0, "motive 0 0;motive 5 3 up 25;", 2, 25);
            x.end(1).isRefused();
            x.faulty(1, "slip 3;weight 3;shake 1 when 1=", 1, 31);
            x.end(1).isRefused();
            x.faulty(2, "again 9(rest cross 0) again 9(again 9(rest))", 4, 44);
            x.end(1).isRefused();
            x.look(6).is(3);
            x.look(7).is(3);
            x.look(8).is(2);
            x.look(10).is(5);
            x.motive(0, 1).is(4);
            x.trial().is(2);
        });
    }

    private static void fault() {
        Sentences.of("Promise 9", "Of the latest text() what 0 the FAULT (0 without one), 1 its place"
            + " (NONE).", x -> {
            x.fault(0).is(0);
            x.fault(1).is(NONE);
            x.faulty(0, "motive 0 9;", 2, 9);
            x.faulty(1, "slip 1", 1, 6);
            x.good(2, "", 0);
            x.faulty(0, "motive 0 0" + Edges.repeated(" same", 8) + ";", 3, 46);
            x.put("motive 0 0;");
            x.fault(0).is(3);
            x.fault(1).is(46);
            x.text(0).is(1);
            x.fault(0).is(0);
            x.fault(1).is(NONE);
            x.faulty(2, Edges.repeated("rest ", 61), 4, 305);
            x.text(3).is(NONE);
            x.fault(0).is(0);
            x.fault(1).is(NONE);
            x.faulty(2, "(", 1, 0);
        });
        Sentences.of("Promise 9", "NONE for another what.", x -> {
            x.faulty(0, "motive", 1, 6);
            for (int what : Edges.beyond(0, 1)) {
                x.fault(what).isRefused(NONE);
            }
            x.fault(0).is(1);
            x.fault(1).is(6);
        });
    }

    private static void call() {
        Sentences.of("Promise 10", "To CALL: SLIPS; NONE, and nothing is done, if it can't be.", x -> {
            x.call(0, 0, 0).isRefused(NONE);
            Edges.fullBench(x);
            for (int w : Edges.beyond(0, 2)) {
                x.call(w, 0, 20).isRefused(NONE);
            }
            for (int fact : Edges.beyond(0, 5)) {
                x.call(1, fact, 20).isRefused(NONE);
            }
            for (int key : Edges.beyond(9, 32)) {
                x.call(0, 0, key).isRefused(NONE);
            }
            for (int key : Edges.beyond(0, 52)) {
                x.call(1, 0, key).isRefused(NONE);
            }
            x.call(0, 1, 20).isRefused(NONE);
            x.call(0, 0, 9).is(0);
            x.call(0, 0, 32).is(0);
            x.call(1, 0, 0).is(0);
            x.call(1, 0, 52).is(0);
            x.end(0);
            x.tell(1, "slip 1000 when bar < 2; slip 0;").is(2);
            x.call(1, 0, 52).is(2);
            x.tell(1, "slip 1000;").is(1);
            x.call(1, 0, 52).is(3);
        });
    }

    private static void crossAndStrike() {
        Sentences.of("Promise 11", "To CROSS: NERVE; NONE if there is no such WITNESS.", x -> {
            x.cross(0).isRefused(NONE);
            x.witness(1, 60, 9);
            x.cross(0).is(35);
            x.cross(1).isRefused(NONE);
            for (int w : Edges.beyond(0, 0)) {
                x.cross(w).isRefused(NONE);
            }
            x.cross(0).is(20);
            x.cross(0).is(5);
            x.cross(0).is(0);
            x.cross(0).is(0);
            x.look(4).is(5);
            for (int w = 1; w < 8; w++) {
                x.witness(1, 60, 9);
            }
            x.cross(7).is(35);
            x.cross(8).isRefused(NONE);
        });
        Sentences.of("Promise 12", "To STRIKE: true; false if it can't be.", x -> {
            x.strike(0).isRefused();
            Edges.singer(x, 1, 60, 9, "");
            for (int i = 0; i < 20; i++) {
                x.strike(i).is(false);
                x.call(0, 0, i).is(0);
            }
            for (int i : Edges.beyond(0, 19)) {
                x.strike(i).isRefused();
            }
            x.strike(0).is(true);
            x.strike(19).is(true);
            x.strike(0).isRefused();
            x.strike(19).isRefused();
            x.testimony(0, 6).is(1);
            x.testimony(1, 6).is(0);
            x.testimony(19, 6).is(1);
            x.look(2).is(20);
            x.look(3).is(20);
        });
    }

    private static void days() {
        Sentences.of("Promise 13", "DAYS of rest (1 .. 30): how many are HOARSE then.", x -> {
            for (int w = 0; w < 8; w++) {
                x.witness(1, 60, 9);
            }
            for (int n : Edges.beyond(1, 30)) {
                x.days(n).isRefused(NONE);
            }
            int state = 0;
            for (int n : new int[] {1, 30, 2, 29}) {
                state = Edges.stateBehind(state, 8 * (n - 1));
                int hoarse = 0;
                for (int w = 0; w < 8; w++) {
                    hoarse += Edges.draw(state, w, 10) == 0 ? 1 : 0;
                }
                state = Edges.stateBehind(state, 8);
                x.days(n).is(hoarse);
                x.look(5).is(state);
            }
            x.look(1).is(62);
            x.look(4).is(62);
        });
        Sentences.of("Promise 13", "NONE, and nothing is done, if one can't be, or DAY would be above 999.", x -> {
            Edges.fullBench(x);
            x.days(0).isRefused(NONE);
            x.days(31).isRefused(NONE);
            for (int i = 0; i < 32; i++) {
                x.days(30);
            }
            x.days(9);
            x.look(1).is(970);
            x.days(30).isRefused(NONE);
            x.days(31).isRefused(NONE);
            x.days(29);
            x.look(1).is(999);
            x.days(1).isRefused(NONE);
            x.days(30).isRefused(NONE);
            x.days(Integer.MAX_VALUE).isRefused(NONE);
            x.look(10).is(6);
        });
    }

    private static void trial() {
        Sentences.of("Promise 14", "A TRIAL is gone through: how many deeds were done.", x -> {
            x.trial().is(0);
            x.look(10).is(1);
            x.undo().is(true);
            Edges.singer(x, 10, 30, 9, "");
            x.tell(2, "call 0 on 0 in 9 call 0 on 0 in 8 cross 0 rest call 0 on 1 in 9").is(5);
            x.trial().is(3);
            x.look(10).is(1);
            x.tell(2, "call 0 on 0 in 8").is(1);
            x.trial().is(0);
            x.look(10).is(1);
            x.tell(2, "again 6(again 5(cross 0 rest))").is(60);
            x.trial().is(60);
            x.look(1).is(31);
            x.undo().is(true);
            x.look(1).is(1);
        });
        Sentences.of("Promise 14", "NONE, and nothing is done, if DAY would be above 999 by all its rests.", x -> {
            Edges.singer(x, 1, 60, 9, "");
            for (int i = 0; i < 33; i++) {
                x.days(30);
            }
            x.tell(2, "call 0 on 0 in 9 again 5(rest rest)").is(11);
            x.trial().isRefused(NONE);
            x.tell(2, "again 9(rest) call 0 on 0 in 9").is(10);
            x.trial().is(10);
            x.look(1).is(999);
            x.trial().isRefused(NONE);
            x.tell(2, "call 0 on 0 in 9 cross 0").is(2);
            x.trial().is(2);
            x.tell(2, "call 0 on 0 in 9 rest").is(2);
            x.trial().isRefused(NONE);
            x.tell(2, "rest call 0 on 0 in 9").is(2);
            x.trial().isRefused(NONE);
            x.tell(2, "rest").is(1);
            x.trial().isRefused(NONE);
            x.days(1).isRefused(NONE);
        });
    }

    private static void of() {
        Sentences.of("Promise 15", "Of a WITNESS what 0 LOW, 1 HIGH, 2 BREATH, 3 NERVE, 4 HOARSE, 5 sung, 6 shake"
            + " (of a crossing), 10 + f the CLAIM of FACT f (NONE).", x -> {
            x.witness(1, 60, 9);
            x.witness(60, 60, 1);
            x.claim(1, 0, 0);
            x.claim(1, 5, 3);
            x.tell(0, "motive 0 0;motive 5 3;").is(2);
            x.tell(1, "slip 0;shake 30 + fact + value;").is(2);
            x.set(4, 1, 1);
            x.call(1, 5, 59).is(0);
            x.call(1, 0, 59).is(0);
            int[] due = {60, 60, 1, 0, 1, 2, 30, NONE - 1, NONE - 1, NONE - 1, 0, NONE, NONE, NONE, NONE, 3};
            for (int what = 0; what < due.length; what++) {
                x.of(1, what).is(due[what]);
            }
            int[] other = {1, 60, 9, 50, 0, 0, 30};
            for (int what = 0; what < other.length; what++) {
                x.of(0, what).is(other[what]);
            }
        });
        Sentences.of("Promise 15", "NONE - 1 if there is none such, or another what.", x -> {
            x.of(0, 0).isRefused(-2);
            Edges.fullBench(x);
            for (int w : Edges.beyond(0, 2)) {
                x.of(w, 0).isRefused(-2);
                x.of(w, 10).isRefused(-2);
            }
            for (int what : new int[] {-1, 7, 9, 16, Integer.MIN_VALUE, Integer.MIN_VALUE + 9, Integer.MIN_VALUE + 12,
                Integer.MAX_VALUE}) {
                x.of(0, what).isRefused(-2);
            }
            x.of(2, 0).is(20);
            x.of(2, 10).is(1);
        });
    }

    private static void testimonyAndBar() {
        Sentences.of("Promise 16", "Of a TESTIMONY what 0 WITNESS, 1 FACT, 2 VALUE, 3 SLIPS, 4 its first BAR, 5 how"
            + " many, 6 STRUCK 1, else 0, 7 weight (half, if HOARSE).", x -> {
            Edges.fullBench(x);
            int[][] due = {{2, 0, 1, 0, 0, 3, 1}, {0, 0, 0, 0, 3, 4, 0}};
            for (int i = 0; i < 2; i++) {
                for (int what = 0; what < 7; what++) {
                    x.testimony(i, what).is(due[i][what]);
                }
            }
            x.set(4, 0, 0);
            x.testimony(1, 7).is(5);
            x.set(4, 0, 1);
            x.testimony(1, 7).is(2);
        });
        Sentences.of("Promise 16", "NONE if there is none such, or another what.", x -> {
            x.testimony(0, 0).isRefused(NONE);
            Edges.fullBench(x);
            for (int i : Edges.beyond(0, 1)) {
                x.testimony(i, 0).isRefused(NONE);
                x.testimony(i, 7).isRefused(NONE);
            }
            for (int what : Edges.beyond(0, 7)) {
                x.testimony(0, what).isRefused(NONE);
            }
            x.undo();
            x.undo();
            x.undo();
            x.undo();
            x.testimony(1, 0).isRefused(NONE);
            x.testimony(0, 0).is(2);
        });
        Sentences.of("Promise 17", "The NOTE of a BAR of THE RECORD (0: a rest, or a SLIP of NOTE 1); NONE if there"
            + " is none such.", x -> {
            x.bar(0).isRefused(NONE);
            Edges.singer(x, 1, 60, 1, "up 24 up 24 up 11");
            x.call(0, 0, 0).is(0);
            int[] due = {1, 0, 25, 0, 49, 0, 60};
            for (int i = 0; i < due.length; i++) {
                x.bar(i).is(due[i]);
            }
            for (int i : Edges.beyond(0, 6)) {
                x.bar(i).isRefused(NONE);
            }
            x.tell(1, "slip 1000;").is(1);
            x.call(0, 0, 0).is(4);
            x.bar(7).is(0);
            x.bar(9).is(24);
            x.bar(13).is(59);
            x.undo().is(true);
            x.bar(7).isRefused(NONE);
            LoggedBench y = new LoggedBench();
            Edges.singer(y, 1, 60, 1, "same same same same same");
            for (int i = 0; i < 18; i++) {
                y.call(0, 0, 5).is(0);
            }
            y.tell(0, "motive 0 0;").is(1);
            y.call(0, 0, 8).is(0);
            y.call(0, 0, 9).is(0);
            y.look(3).is(200);
            y.bar(199).is(10);
            y.bar(200).isRefused(NONE);
        });
    }

    private static void motive() {
        Sentences.of("Promise 18", "Of a MOTIVE (FACT times 4 + VALUE) what 0 how many NOTES (0: none), 1 + i its"
            + " i-th step (0 the first; up above 0).", x -> {
            x.good(0, "motive 0 0 up 24 down 24 same up 1 down 1 up 2 down 2;motive 5 3;motive 3 1 down 5;", 3);
            int[] due = {8, 24, -24, 0, 1, -1, 2, -2};
            for (int what = 0; what < due.length; what++) {
                x.motive(0, what).is(due[what]);
            }
            for (int which = 1; which < 24; which++) {
                x.motive(which, 0).is(which == 23 ? 1 : which == 13 ? 2 : 0);
            }
            x.motive(13, 1).is(-5);
        });
        Sentences.of("Promise 18", "NONE - 99 if there is none such, or another what.", x -> {
            x.motive(0, 1).isRefused(-100);
            x.good(0, "motive 0 0 same same same same same same same;motive 5 3;motive 3 1 down 5;", 3);
            for (int which : Edges.beyond(0, 23)) {
                x.motive(which, 0).isRefused(-100);
                x.motive(which, 1).isRefused(-100);
            }
            for (int what : Edges.beyond(0, 7)) {
                x.motive(0, what).isRefused(-100);
            }
            x.motive(23, 1).isRefused(-100);
            x.motive(13, 2).isRefused(-100);
            x.motive(1, 1).isRefused(-100);
            x.motive(1, -1).isRefused(-100);
            x.motive(0, 7).is(0);
        });
    }

    private static void book() {
        Sentences.of("Promise 19", "Of line i of THE BOOK what 0 DAY, 1 what, 2 the WITNESS, 3 the FACT, 4"
            + " SLIPS.", x -> {
            Edges.fullBench(x);
            int[][] due = {{0, 0, 2, 0, 0}, {0, 0, 0, 0, 0}, {0, 1, 1, NONE, 0}, {0, 3, NONE, NONE, 0},
                {1, 2, 0, NONE, 0}};
            for (int i = 0; i < due.length; i++) {
                for (int what = 0; what < 5; what++) {
                    x.book(i, what).is(due[i][what]);
                }
            }
            LoggedBench y = new LoggedBench();
            for (int i = 0; i < 33; i++) {
                y.days(30).is(0);
            }
            y.look(4).is(120);
            y.book(0, 0).is(0);
            y.book(119, 0).is(119);
        });
        Sentences.of("Promise 19", "NONE - 1 if there is none such, or another what.", x -> {
            x.book(0, 0).isRefused(-2);
            Edges.fullBench(x);
            for (int i : Edges.beyond(0, 4)) {
                x.book(i, 0).isRefused(-2);
            }
            for (int what : Edges.beyond(0, 4)) {
                x.book(0, what).isRefused(-2);
            }
            x.undo().is(true);
            x.book(4, 0).isRefused(-2);
            x.book(3, 0).is(0);
            x.days(30);
            x.days(30);
            x.days(30);
            x.days(30);
            x.look(4).is(120);
            x.book(119, 1).is(3);
            x.book(120, 1).isRefused(-2);
        });
    }

    private static void keysAndFair() {
        Sentences.of("Promise 20", "KEYS what 0 how many, 1 the lowest, 2 the highest (NONE).", x -> {
            Edges.singer(x, 10, 30, 9, "up 20");
            int[] one = {1, 9, 9};
            int[] none = {0, NONE, NONE};
            for (int what = 0; what < 3; what++) {
                x.keys(0, 0, what).is(one[what]);
            }
            x.tell(0, "motive 0 0 up 21;").is(1);
            for (int what = 0; what < 3; what++) {
                x.keys(0, 0, what).is(none[what]);
            }
        });
        Sentences.of("Promise 20", "NONE if there is no CLAIM or MOTIVE, one can't be, or another what.", x -> {
            x.keys(0, 0, 0).isRefused(NONE);
            Edges.fullBench(x);
            x.keys(0, 1, 0).isRefused(NONE);
            x.claim(0, 1, 1);
            x.keys(0, 1, 0).isRefused(NONE);
            for (int w : Edges.beyond(0, 2)) {
                x.keys(w, 0, 0).isRefused(NONE);
            }
            for (int fact : Edges.beyond(0, 5)) {
                x.keys(1, fact, 0).isRefused(NONE);
            }
            for (int what : Edges.beyond(0, 2)) {
                x.keys(0, 0, what).isRefused(NONE);
            }
            x.keys(2, 0, 0).is(31);
            x.keys(1, 5, 0).is(60);
        });
        Sentences.of("Promise 21", "FAIR; NONE if it can't be sung, or one can't be (e 0 .. 9).", x -> {
            x.fair(0, 0, 0, 0).isRefused(NONE);
            Edges.fullBench(x);
            for (int key : Edges.beyond(9, 32)) {
                x.fair(0, 0, key, 0).isRefused(NONE);
            }
            x.fair(0, 0, 9, 0).is(1000000);
            x.fair(0, 0, 32, 9).is(1000000);
            for (int e : Edges.beyond(0, 9)) {
                x.fair(0, 0, 20, e).isRefused(NONE);
            }
            for (int w : Edges.beyond(0, 2)) {
                x.fair(w, 0, 20, 0).isRefused(NONE);
            }
            for (int fact : Edges.beyond(0, 5)) {
                x.fair(1, fact, 20, 0).isRefused(NONE);
            }
            x.fair(0, 1, 20, 0).isRefused(NONE);
            x.claim(0, 1, 1);
            x.fair(0, 1, 20, 0).isRefused(NONE);
            x.fair(1, 5, 0, 0).is(1000000);
            x.fair(1, 5, 59, 0).is(1000000);
        });
    }

    private static void heardAndRead() {
        Sentences.of("Promise 22", "A NOTE HEARD (0: none is then): how many; NONE if one can't be, or there are"
            + " twelve.", x -> {
            x.heard(0).is(0);
            for (int note : new int[] {-1, 61, Integer.MIN_VALUE, Integer.MAX_VALUE}) {
                x.heard(note).isRefused(NONE);
            }
            for (int i = 1; i <= 12; i++) {
                x.heard(i % 2 == 0 ? 1 : 60).is(i);
            }
            x.heard(1).isRefused(NONE);
            x.heard(60).isRefused(NONE);
            x.heard(61).isRefused(NONE);
            x.look(9).is(12);
            x.heard(0).is(0);
            x.look(9).is(0);
            x.heard(0).is(0);
            x.heard(60).is(1);
        });
        Sentences.of("Promise 23", "READ what 0 how many, 1 the first, 2 its fewest unlike ones (NONE).", x -> {
            Edges.fullBench(x);
            x.read(0, 0).is(1);
            x.read(0, 1).is(0);
            x.read(0, 2).is(0);
            x.heard(5).is(4);
            x.read(9, 0).is(0);
            x.read(9, 1).is(NONE);
            x.read(9, 2).is(NONE);
            x.heard(0).is(0);
            x.read(9, 0).is(0);
            x.read(9, 1).is(NONE);
            x.read(9, 2).is(NONE);
            x.heard(60).is(1);
            x.read(0, 0).is(1);
            x.read(0, 1).is(23);
        });
        Sentences.of("Promise 23", "NONE if e can't be, or another what.", x -> {
            Edges.fullBench(x);
            for (int e : Edges.beyond(0, 9)) {
                x.read(e, 0).isRefused(NONE);
            }
            for (int what : Edges.beyond(0, 2)) {
                x.read(0, what).isRefused(NONE);
            }
            x.read(9, 0).is(1);
        });
    }

    private static void duetBestAndCanon() {
        Sentences.of("Promise 24", "DUET; NONE if one can't be (alike may be).", x -> {
            x.duet(0, 0).isRefused(NONE);
            Edges.fullBench(x);
            for (int i : Edges.beyond(0, 1)) {
                x.duet(i, 0).isRefused(NONE);
                x.duet(0, i).isRefused(NONE);
                x.duet(i, i).isRefused(NONE);
            }
            x.duet(0, 0).is(2);
            x.duet(1, 1).is(3);
            x.duet(0, 1).is(1);
            x.duet(1, 0).is(1);
        });
        Sentences.of("Promise 25", "BEST what 0 the KEY, 1 in how many BARS.", x -> {
            Edges.fullBench(x);
            x.best(1, 5, 0, 1).is(1);
            x.best(1, 5, 0, 0).is(0);
            x.set(0, 0, 1);
            x.best(1, 5, 0, 0).is(0);
            x.best(1, 5, 1, 0).is(7);
            x.best(0, 0, 1, 0).is(19);
            x.best(0, 0, 1, 1).is(2);
            x.set(0, 0, 0);
            x.best(0, 0, 1, 0).is(9);
            x.best(0, 0, 1, 1).is(0);
            LoggedBench y = new LoggedBench();
            Edges.singer(y, 1, 60, 1, Edges.repeated(" same", 7));
            y.set(0, 0, 1);
            for (int i = 0; i < 13; i++) {
                y.call(0, 0, 29).is(0);
            }
            y.tell(0, "motive 0 0 same same;").is(1);
            y.call(0, 0, 30).is(0);
            y.look(3).is(200);
            y.tell(0, "motive 0 0" + Edges.repeated(" same", 7) + ";").is(1);
            y.best(0, 0, 13, 0).is(6);
            y.best(0, 0, 13, 1).is(3);
            y.best(0, 0, 12, 1).is(4);
            y.duet(13, 12).is(0);
            y.duet(13, 13).is(3);
            y.canon(13, 4).is(1);
            y.canon(13, 5).is(0);
        });
        Sentences.of("Promise 25", "NONE if it can't be sung in any, one can't be, or another what.", x -> {
            x.best(0, 0, 0, 0).isRefused(NONE);
            Edges.fullBench(x);
            for (int w : Edges.beyond(0, 2)) {
                x.best(w, 0, 0, 0).isRefused(NONE);
            }
            for (int fact : Edges.beyond(0, 5)) {
                x.best(1, fact, 0, 0).isRefused(NONE);
            }
            for (int i : Edges.beyond(0, 1)) {
                x.best(0, 0, i, 0).isRefused(NONE);
            }
            for (int what : Edges.beyond(0, 1)) {
                x.best(0, 0, 0, what).isRefused(NONE);
            }
            x.best(0, 1, 0, 0).isRefused(NONE);
            x.end(0);
            x.tell(0, "motive 0 0 up 24 up 7;").is(1);
            x.best(0, 0, 0, 0).isRefused(NONE);
            x.best(0, 0, 0, 1).isRefused(NONE);
            x.best(2, 0, 0, 0).isRefused(NONE);
            x.tell(0, "motive 0 0 up 24 up 6;").is(1);
            x.best(0, 0, 0, 0).is(9);
        });
        Sentences.of("Promise 26", "CANON; NONE if one can't be.", x -> {
            x.canon(0, 1).isRefused(NONE);
            Edges.fullBench(x);
            for (int i : Edges.beyond(0, 1)) {
                x.canon(i, 1).isRefused(NONE);
            }
            for (int d : Edges.beyond(1, 30)) {
                x.canon(0, d).isRefused(NONE);
            }
            x.canon(0, 1).is(0);
            x.canon(0, 2).is(1);
            x.canon(0, 3).is(0);
            x.canon(0, 30).is(0);
            x.canon(1, 1).is(1);
            x.canon(1, 2).is(1);
            x.canon(1, 3).is(1);
            x.canon(1, 4).is(0);
        });
    }

    private static void weighedAndFound() {
        Sentences.of("Promise 27", "WEIGHED; NONE if one can't be.", x -> {
            x.weighed(0, 0).is(0);
            Edges.fullBench(x);
            for (int fact : Edges.beyond(0, 5)) {
                x.weighed(fact, 0).isRefused(NONE);
            }
            for (int value : Edges.beyond(0, 3)) {
                x.weighed(0, value).isRefused(NONE);
            }
            x.set(4, 0, 0);
            x.weighed(0, 0).is(5);
            x.weighed(0, 1).is(0);
            x.weighed(5, 3).is(0);
        });
        Sentences.of("Promise 28", "FOUND; NONE if it is not, or one can't be.", x -> {
            x.found(0).is(NONE);
            Edges.fullBench(x);
            for (int fact : Edges.beyond(0, 5)) {
                x.found(fact).isRefused(NONE);
            }
            x.set(4, 0, 0);
            x.set(1, 0, 6);
            x.found(0).isRefused(NONE);
            x.set(1, 0, 5);
            x.found(0).is(0);
            x.found(5).is(NONE);
            x.call(1, 5, 20).is(0);
            x.found(5).is(3);
        });
    }

    private static void callsAndChoir() {
        Sentences.of("Promise 29", "CALLS what 0 how many, 1 the set.", x -> {
            Edges.fullBench(x);
            for (int w = 0; w < 3; w++) {
                x.set(4, w, 0);
            }
            int[][] due = {{5, 0, 0}, {6, 1, 1}, {10, 1, 1}, {11, 2, 3}, {15, 2, 3}, {16, NONE, NONE}};
            for (int[] d : due) {
                x.set(1, 0, d[0]);
                x.calls(0, 0, 0).is(d[1]);
                x.calls(0, 0, 1).is(d[2]);
            }
        });
        Sentences.of("Promise 29", "NONE if they are not enough, one can't be, or another what.", x -> {
            x.calls(0, 0, 0).isRefused(NONE);
            Edges.fullBench(x);
            x.set(1, 0, 16);
            x.calls(0, 0, 0).isRefused(NONE);
            x.calls(0, 0, 1).isRefused(NONE);
            x.calls(0, 2, 0).isRefused(NONE);
            x.set(1, 0, 5);
            for (int fact : Edges.beyond(0, 5)) {
                x.calls(fact, 3, 0).isRefused(NONE);
            }
            for (int value : Edges.beyond(0, 3)) {
                x.calls(0, value, 0).isRefused(NONE);
            }
            for (int what : Edges.beyond(0, 1)) {
                x.calls(0, 0, what).isRefused(NONE);
            }
            x.calls(5, 3, 1).is(2);
        });
        Sentences.of("Promise 30", "CHOIR what 0 how many, 1 the set.", x -> {
            Edges.fullBench(x);
            x.choir(0).is(2);
            x.choir(1).is(3);
            for (int value = 0; value < 4; value++) {
                x.calls(0, value, 1);
                x.choir(1).is(3);
            }
            x.claim(0, 0, 1);
            x.choir(0).is(2);
            x.choir(1).is(5);
            x.claim(0, 0, 2);
            x.choir(0).is(1);
            x.choir(1).is(1);
        });
        Sentences.of("Promise 30", "NONE for another what.", x -> {
            for (int what : Edges.beyond(0, 1)) {
                x.choir(what).isRefused(NONE);
            }
            Edges.fullBench(x);
            for (int what : Edges.beyond(0, 1)) {
                x.choir(what).isRefused(NONE);
            }
        });
    }

    private static void worlds() {
        Sentences.of("Promise 31", "What 0 WORLDS, 1 SURE, 2 ASK (NONE: fewer than two WORLDS).", x -> {
            x.witness(1, 60, 9);
            x.witness(1, 60, 9);
            for (int fact = 0; fact < 6; fact++) {
                x.claim(0, fact, fact % 4);
            }
            int[] one = {1, 63, NONE};
            int[] none = {0, 63, NONE};
            int[] two = {2, 63 - 16, 4};
            int[] all = {4096, 0, 0};
            for (int what = 0; what < 3; what++) {
                x.worlds(0, what).is(one[what]);
                x.worlds(8, what).is(all[what]);
            }
            for (int fact = 0; fact < 6; fact++) {
                x.claim(1, fact, fact == 4 ? 3 : fact % 4);
            }
            for (int what = 0; what < 3; what++) {
                x.worlds(0, what).is(none[what]);
                x.worlds(1, what).is(two[what]);
            }
        });
        Sentences.of("Promise 31", "NONE if e can't be, or another what.", x -> {
            Edges.fullBench(x);
            for (int e : Edges.beyond(0, 8)) {
                x.worlds(e, 0).isRefused(NONE);
                x.worlds(e, 1).isRefused(NONE);
            }
            for (int what : Edges.beyond(0, 2)) {
                x.worlds(0, what).isRefused(NONE);
                x.worlds(8, what).isRefused(NONE);
            }
            x.worlds(8, 0).is(4096);
        });
    }

    private static void chord() {
        Sentences.of("Promise 32", "CHORD what 0 how many, 1, 2, 3 the second, third, last one's NOTE of the"
            + " lowest.", x -> {
            x.witness(10, 10, 9);
            x.witness(1, 60, 9);
            x.witness(20, 22, 9);
            x.witness(33, 34, 9);
            x.set(0, 0, 1);
            int[] due = {5, 10, 22, 34};
            for (int what = 0; what < 4; what++) {
                x.chord(0, 1, 2, 3, 10, what).is(due[what]);
            }
            int[] other = {5, 34, 22, 10};
            for (int what = 0; what < 4; what++) {
                x.chord(0, 3, 2, 1, 10, what).is(other[what]);
            }
        });
        Sentences.of("Promise 32", "NONE if there is none (1 .. 3), one can't be (the NOTE not in the first one's"
            + " range, too), or another what.", x -> {
            x.chord(0, 1, 2, 3, 20, 0).isRefused(NONE);
            Edges.fullBench(x);
            x.chord(0, 1, 2, 3, 20, 0).isRefused(NONE);
            x.witness(1, 60, 9).is(3);
            x.set(0, 0, 0);
            x.chord(0, 1, 2, 3, 20, 0).is(0);
            for (int what = 1; what < 4; what++) {
                x.chord(0, 1, 2, 3, 20, what).isRefused(NONE);
            }
            x.set(0, 0, 4095);
            for (int note : Edges.beyond(10, 40)) {
                x.chord(0, 1, 2, 3, note, 0).isRefused(NONE);
            }
            x.chord(0, 1, 2, 3, 10, 0).is(60 * 31 * 60);
            x.chord(0, 1, 2, 3, 40, 3).is(1);
            for (int w : Edges.beyond(0, 3)) {
                x.chord(w, 1, 2, 3, 20, 0).isRefused(NONE);
                x.chord(0, w, 2, 3, 20, 0).isRefused(NONE);
                x.chord(0, 1, w, 3, 20, 0).isRefused(NONE);
                x.chord(0, 1, 2, w, 20, 0).isRefused(NONE);
            }
            for (int what : Edges.beyond(0, 3)) {
                x.chord(0, 1, 2, 3, 20, what).isRefused(NONE);
            }
            x.chord(0, 1, 2, 0, 20, 0).isRefused(NONE);
            x.chord(1, 1, 2, 3, 20, 0).isRefused(NONE);
        });
    }

    private static void undo() {
        Sentences.of("Promise 33", "UNDO: true; false if there is nothing.", x -> {
            x.undo().isRefused();
            x.trial().is(0);
            x.undo().is(true);
            x.undo().isRefused();
            Edges.fullBench(x);
            for (int left = 5; left > 0; left--) {
                x.look(10).is(left);
                x.undo().is(true);
            }
            x.undo().isRefused();
            x.look(2).is(0);
            x.look(4).is(0);
            x.days(30);
            for (int left = 6; left > 0; left--) {
                x.look(10).is(left);
                x.undo().is(true);
            }
            x.undo().isRefused();
            x.look(1).is(24);
        });
    }

    private static void image() {
        Sentences.of("Promise 34", "THE IMAGE is taken (true), or gone back to (false): true; false if there is"
            + " none.", x -> {
            x.image(false).isRefused();
            x.days(1);
            x.image(false).isRefused();
            x.image(true).is(true);
            x.look(10).is(1);
            x.days(1);
            x.undo().is(true);
            x.undo().is(true);
            x.look(1).is(0);
            x.image(false).is(true);
            x.look(1).is(1);
            x.look(4).is(1);
            x.undo().isRefused();
            x.image(false).is(true);
            x.look(1).is(1);
            x.witness(1, 60, 9);
            x.image(true).is(true);
            x.witness(1, 60, 9);
            x.image(false).is(true);
            x.look(0).is(1);
        });
    }

    private static void look() {
        Sentences.of("Promise 35", "What 0 WITNESSES, 1 DAY, 2 TESTIMONIES, 3 BARS, 4 lines of THE BOOK, 5 STATE, 6"
            + " lines of MOTIVES, 7 of THE LAW, 8 deeds of A TRIAL, 9 NOTES HEARD, 10 what can be undone, 11 SOUND,"
            + " 12 NEED, 13 FLATS.", x -> {
            Edges.fullBench(x);
            int[] due = {3, 1, 2, 7, 5, Edges.stateBehind(77, 8), 3, 3, 2, 3, 5, 953, 10, 1};
            for (int what = 0; what < due.length; what++) {
                x.look(what).is(due[what]);
            }
        });
        Sentences.of("Promise 35", "NONE for another what.", x -> {
            Edges.fullBench(x);
            for (int what : Edges.beyond(0, 13)) {
                x.look(what).isRefused(NONE);
            }
        });
        Sentences.of("Promise 35", "(STATE as it is.)", x -> {
            x.state(-1);
            x.look(5).is(-1);
            x.state(Integer.MIN_VALUE);
            x.look(5).is(Integer.MIN_VALUE);
            x.look(5).isRefused(Integer.MIN_VALUE);
            x.witness(1, 60, 9);
            x.days(1);
            x.look(5).is(Edges.stateBehind(Integer.MIN_VALUE, 1));
        });
    }
}
