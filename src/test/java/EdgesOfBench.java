import java.io.IOException;

/** The boundaries of "What it is", "The public face", the beginning of "Terms" and its part 1. */
public final class EdgesOfBench {
    private static final int NONE = Edges.NONE;
    private static final String ONE = "Terms 1";

    private EdgesOfBench() {
    }

    public static void main(String[] args) throws IOException {
        Sentences.open(args[0]);
        face();
        quotients();
        draws();
        notes();
        factsAndValues();
        witnesses();
        ofWitness();
        sound();
        needAndFlats();
        day();
        Sentences.close("EdgesOfBench", "What it is", "The public face", "Terms", ONE);
    }

    private static void face() {
        Sentences.of("What it is", "An object is used for at most 512 calls after it has been made", x -> {
            for (int i = 0; i < 509; i++) {
                x.look(0).is(0);
            }
            x.witness(1, 60, 9).is(0);
            x.days(1).is(Edges.draw(0, 0, 10) == 0 ? 1 : 0);
            x.look(1).is(1);
            Check.due("512 calls", x.howManyCalls(), 512);
        });
        Sentences.of("What it is", "all undone that was done, and an image from which all goes on", x -> {
            for (int i = 0; i < 254; i++) {
                x.trial().is(0);
                x.undo().is(true);
            }
            x.undo().is(false);
            x.image(true).is(true);
            x.image(false).is(true);
            x.look(10).is(0);
        });
        Sentences.of("The public face", "public static final int NONE = -1;", x -> {
            Check.due("NONE", SungEvidence.NONE, -1);
            x.look(14).is(-1);
        });
    }

    private static void quotients() {
        Sentences.of("Terms", "Quotients go downwards.", x -> {
            Edges.singer(x, 1, 60, 9, "");
            x.call(0, 0, 20).is(0);
            x.set(4, 0, 1);
            int[][] halves = {{0, 0}, {1, 0}, {2, 1}, {3, 1}, {98, 49}, {99, 49}};
            for (int[] half : halves) {
                x.tell(1, "slip 0; weight " + half[0] + ";").is(2);
                x.testimony(0, 7).is(half[1]);
                x.weighed(0, 0).is(half[1]);
            }
            x.tell(1, "slip 0; weight 3;").is(2);
            x.set(1, 0, 2).is(true);
            x.calls(0, 0, 0).is(1);
            x.set(1, 0, 3).is(true);
            x.calls(0, 0, 0).is(NONE);
        });
    }

    private static void draws() {
        Sentences.of("Terms", "STATE of draws (an int, 0 at first)", x -> {
            x.look(5).is(0);
            x.state(Integer.MAX_VALUE).is(0);
            x.state(Integer.MIN_VALUE).is(Integer.MAX_VALUE);
            x.state(-1).is(Integer.MIN_VALUE);
            x.state(0).is(-1);
            x.look(5).is(0);
        });
        Sentences.of("Terms", "it becomes 1664525 times itself + 1013904223 (ints, which wrap)", x -> {
            x.witness(1, 60, 1);
            int[] states = {0, 1, -1, 681, 682, -609, -610, -1899, -1900, 65535, Integer.MAX_VALUE,
                Integer.MIN_VALUE};
            for (int state : states) {
                x.state(state);
                x.days(1);
                x.look(5).is((int) (1664525L * state + 1013904223L));
            }
            x.state(681);
            x.days(1);
            Check.due("the last one that does not wrap", x.look(5).value() > 0, true);
            x.state(682);
            x.days(1);
            Check.due("the first one that wraps", x.look(5).value() < 0, true);
        });
        Sentences.of("Terms", "then it is its highest 24 bits (without sign) modulo m.", x -> {
            x.witness(1, 60, 1);
            int[] behind = {0, 255, 256, 9 * 256 + 255, 10 * 256, 11 * 256 - 1, 11 * 256, Integer.MAX_VALUE,
                Integer.MIN_VALUE, -1, 16777210 << 8, 16777206 << 8, 16777209 << 8 | 255};
            int[] hoarse = {1, 1, 0, 0, 1, 1, 0, 0, 0, 0, 1, 0, 0};
            for (int i = 0; i < behind.length; i++) {
                x.state(Edges.stateBefore(behind[i]));
                x.days(1).is(hoarse[i]);
                x.look(5).is(behind[i]);
                x.of(0, 4).is(hoarse[i]);
            }
            LoggedBench y = new LoggedBench();
            Edges.singer(y, 1, 60, 9, "");
            int[][] bitsAndDraws = {{0, 0}, {999, 999}, {1000, 0}, {8388607, 607}, {8388608, 608}, {16777215, 215},
                {16777000, 0}, {16776999, 999}};
            for (int[] b : bitsAndDraws) {
                y.state(Edges.stateDrawing(b[0]));
                y.tell(1, "slip " + b[1] + ";").is(1);
                y.call(0, 0, 20).is(0);
                y.undo().is(true);
                y.tell(1, "slip " + (b[1] + 1) + ";").is(1);
                y.call(0, 0, 20).is(1);
            }
        });
    }

    private static void notes() {
        Sentences.of(ONE, "NOTES 1 .. 60.", x -> {
            Edges.fullBench(x);
            int[][] wrong = {{0, 0, 1}, {0, 60, 1}, {1, 61, 1}, {60, 61, 1}, {61, 61, 1}, {-1, 1, 1},
                {Integer.MIN_VALUE, 60, 1}, {1, Integer.MAX_VALUE, 1}};
            for (int[] w : wrong) {
                x.witness(w[0], w[1], w[2]).isRefused(NONE);
            }
            for (int note : new int[] {-1, 61, Integer.MIN_VALUE, Integer.MAX_VALUE}) {
                x.heard(note).isRefused(NONE);
            }
            x.heard(1).is(4);
            x.heard(60).is(5);
            x.witness(1, 60, 1).is(3);
            x.witness(1, 1, 1).is(4);
            x.witness(60, 60, 1).is(5);
            x.set(0, 0, 4095);
            x.chord(4, 1, 2, 3, 0, 0).isRefused(NONE);
            x.chord(4, 1, 2, 3, 1, 0).is(60 * 31 * 60);
            x.chord(4, 1, 2, 3, 2, 0).isRefused(NONE);
            x.chord(5, 1, 2, 3, 59, 0).isRefused(NONE);
            x.chord(5, 1, 2, 3, 60, 0).is(60 * 31 * 60);
            x.chord(5, 1, 2, 3, 61, 0).isRefused(NONE);
        });
    }

    /** Where a fact or a value is told or asked, the least and the most of them can be, and what is beyond can't. */
    private static void factsAndValues() {
        Sentences.of(ONE, "FACTS 0 .. 5, each with VALUES 0 .. 3.", x -> {
            x.witness(1, 60, 9);
            for (int value = 0; value < 4; value++) {
                for (int fact = 0; fact < 6; fact++) {
                    x.claim(0, fact, value).is(true);
                    x.of(0, 10 + fact).is(value);
                }
            }
            for (int fact : Edges.beyond(0, 5)) {
                x.claim(0, fact, 0).isRefused();
            }
            for (int value : new int[] {-2, 4, Integer.MIN_VALUE, Integer.MAX_VALUE}) {
                x.claim(0, 0, value).isRefused();
            }
            x.good(0, "motive 0 3;motive 5 3;", 2);
            x.good(0, "motive 0 0;motive 5 0;motive 0 3;motive 5 3;", 4);
        });
        Sentences.of(ONE, "FACTS 0 .. 5", x -> {
            x.witness(1, 60, 9);
            x.claim(0, 0, 3);
            x.claim(0, 5, 3);
            x.tell(0, "motive 0 3;motive 5 3;").is(2);
            x.tell(1, "slip 0;weight 10;").is(2);
            x.call(0, 0, 3).is(0);
            x.call(0, 5, 3).is(0);
            for (int fact : Edges.beyond(0, 5)) {
                x.call(0, fact, 3).isRefused(NONE);
                x.keys(0, fact, 0).isRefused(NONE);
                x.fair(0, fact, 3, 0).isRefused(NONE);
                x.best(0, fact, 0, 0).isRefused(NONE);
                x.weighed(fact, 3).isRefused(NONE);
                x.found(fact).isRefused(NONE);
                x.calls(fact, 3, 0).isRefused(NONE);
            }
            for (int fact = 0; fact < 6; fact += 5) {
                x.keys(0, fact, 0).is(60);
                x.fair(0, fact, 3, 0).is(1000000);
                x.best(0, fact, 0, 1).is(1);
                x.weighed(fact, 3).is(10);
                x.found(fact).is(3);
                x.calls(fact, 3, 0).is(0);
            }
        });
        Sentences.of(ONE, "each with VALUES 0 .. 3.", x -> {
            x.witness(1, 60, 9);
            x.tell(0, "motive 0 0;motive 0 3;").is(2);
            x.tell(1, "slip 0;").is(1);
            x.claim(0, 0, 0);
            x.call(0, 0, 3).is(0);
            x.claim(0, 0, 3);
            x.call(0, 0, 3).is(0);
            x.call(0, 0, 3).is(0);
            x.weighed(0, 0).is(4);
            x.weighed(0, 3).is(8);
            x.set(1, 0, 12);
            x.calls(0, 0, 0).is(NONE);
            x.calls(0, 3, 0).is(1);
            for (int value : Edges.beyond(0, 3)) {
                x.weighed(0, value).isRefused(NONE);
                x.calls(0, value, 0).isRefused(NONE);
            }
        });
    }

    private static void witnesses() {
        Sentences.of(ONE, "WITNESSES 0 .. 7 as they come", x -> {
            for (int w = 0; w < 8; w++) {
                x.of(w, 0).is(NONE - 1);
                x.cross(w).isRefused(NONE);
                x.witness(1 + w, 60 - w, 1 + w).is(w);
                x.of(w, 0).is(1 + w);
                x.of(w, 1).is(60 - w);
                x.of(w, 2).is(1 + w);
            }
            x.witness(1, 60, 1).isRefused(NONE);
            x.of(8, 0).is(NONE - 1);
            x.of(-1, 0).is(NONE - 1);
            x.cross(7).is(35);
            x.cross(8).isRefused(NONE);
            x.cross(-1).isRefused(NONE);
        });
        Sentences.of(ONE, "LOW, HIGH: NOTES (HIGH not below LOW)", x -> {
            for (int low : new int[] {2, 30, 60}) {
                x.witness(low, low - 1, 5).isRefused(NONE);
            }
            x.witness(60, 1, 5).isRefused(NONE);
            x.witness(30, 30, 5).is(0);
            x.of(0, 0).is(30);
            x.of(0, 1).is(30);
            x.witness(30, 31, 5).is(1);
            x.of(1, 1).is(31);
        });
        Sentences.of(ONE, "BREATH 1 .. 9", x -> {
            for (int breath : Edges.beyond(1, 9)) {
                x.witness(1, 60, breath).isRefused(NONE);
            }
            x.witness(1, 60, 1).is(0);
            x.of(0, 2).is(1);
            x.witness(1, 60, 9).is(1);
            x.of(1, 2).is(9);
        });
    }

    private static void ofWitness() {
        Sentences.of(ONE, "NERVE 0 .. 99 (50 at first)", x -> {
            x.witness(1, 60, 1);
            x.of(0, 3).is(50);
            for (int nerve : Edges.beyond(0, 99)) {
                x.set(3, 0, nerve).isRefused();
            }
            x.set(3, 0, 0).is(true);
            x.of(0, 3).is(0);
            x.cross(0).is(0);
            x.days(1);
            x.of(0, 3).is(7);
            x.set(3, 0, 99).is(true);
            x.of(0, 3).is(99);
            x.days(1);
            x.of(0, 3).is(99);
        });
        Sentences.of(ONE, "HOARSE 0, 1 (0 at first)", x -> {
            x.witness(1, 60, 1);
            x.of(0, 4).is(0);
            for (int hoarse : Edges.beyond(0, 1)) {
                x.set(4, 0, hoarse).isRefused();
            }
            x.set(4, 0, 1).is(true);
            x.of(0, 4).is(1);
            x.set(4, 0, 2).isRefused();
            x.set(4, 0, 0).is(true);
            x.of(0, 4).is(0);
        });
        Sentences.of(ONE, "of each FACT a CLAIM: a VALUE, or none (at first).", x -> {
            x.witness(1, 60, 1);
            x.tell(0, Edges.motives(4)).is(4);
            for (int fact = 0; fact < 6; fact++) {
                x.of(0, 10 + fact).is(NONE);
            }
            x.call(0, 0, 5).isRefused(NONE);
            x.claim(0, 0, 0).is(true);
            x.of(0, 10).is(0);
            x.of(0, 11).is(NONE);
            x.call(0, 0, 5);
            x.look(2).is(1);
            x.claim(0, 0, NONE).is(true);
            x.of(0, 10).is(NONE);
            x.call(0, 0, 5).isRefused(NONE);
        });
    }

    private static boolean soundsAtFirst(int apart) {
        int far = apart % 12;
        return far == 0 || far == 3 || far == 4 || far == 5 || far == 7 || far == 8 || far == 9;
    }

    private static void sound() {
        Sentences.of(ONE, "SOUND: a set of 0 .. 11", x -> {
            for (int sound : Edges.beyond(0, 4095)) {
                x.set(0, 0, sound).isRefused();
            }
            x.set(0, 0, 0).is(true);
            x.look(11).is(0);
            x.set(0, 0, 4095).is(true);
            x.look(11).is(4095);
        });
        Sentences.of(ONE, "two NOTES SOUND together, if how far they are apart modulo 12 is in it (0, 3, 4, 5, 7,"
            + " 8, 9 at first).", x -> {
            x.look(11).is(1 + 8 + 16 + 32 + 128 + 256 + 512);
            for (int apart = 0; apart < 60; apart++) {
                LoggedBench y = new LoggedBench();
                Edges.singer(y, 1, 60, 9, "");
                y.call(0, 0, 59 - apart).is(0);
                y.call(0, 0, 59).is(0);
                y.duet(0, 1).is(soundsAtFirst(apart));
                y.duet(1, 0).is(soundsAtFirst(apart));
                for (int only = 0; only < 12; only++) {
                    y.set(0, 0, 1 << only).is(true);
                    y.duet(0, 1).is(apart % 12 == only);
                    y.duet(1, 0).is(apart % 12 == only);
                    y.set(0, 0, 4095 - (1 << only)).is(true);
                    y.duet(0, 1).is(apart % 12 != only);
                }
            }
        });
    }

    private static void needAndFlats() {
        Sentences.of(ONE, "NEED 1 .. 999 (10 at first)", x -> {
            x.look(12).is(10);
            for (int need : Edges.beyond(1, 999)) {
                x.set(1, 0, need).isRefused();
            }
            Edges.singer(x, 1, 60, 9, "");
            x.set(1, 0, 1).is(true);
            x.look(12).is(1);
            x.found(0).is(NONE);
            for (int i = 0; i < 11; i++) {
                x.call(0, 0, 20).is(0);
            }
            x.set(1, 0, 999).is(true);
            x.look(12).is(999);
            x.tell(1, "slip 0; weight 90;").is(2);
            x.weighed(0, 0).is(990);
            x.found(0).is(NONE);
            x.tell(1, "slip 0; weight 91;").is(2);
            x.found(0).is(0);
            x.set(1, 0, 1).is(true);
            x.tell(1, "slip 0; weight 0;").is(2);
            x.found(0).is(NONE);
        });
        Sentences.of(ONE, "FLATS 0 .. 9 (1 at first)", x -> {
            x.look(13).is(1);
            for (int flats : Edges.beyond(0, 9)) {
                x.set(2, 0, flats).isRefused();
            }
            Edges.singer(x, 1, 60, 9, "same same");
            for (int slips = 0; slips < 4; slips++) {
                x.tell(1, "weight 5; slip 1000 when bar < " + slips + "; slip 0;").is(3);
                x.call(0, 0, 20).is(slips);
            }
            x.look(13).is(1);
            x.weighed(0, 0).is(10);
            x.set(2, 0, 0).is(true);
            x.look(13).is(0);
            x.weighed(0, 0).is(5);
            x.set(2, 0, 2).is(true);
            x.weighed(0, 0).is(15);
            x.set(2, 0, 9).is(true);
            x.look(13).is(9);
            x.weighed(0, 0).is(20);
        });
    }

    private static void day() {
        Sentences.of(ONE, "DAY 0 .. 999 (0 at first).", x -> {
            x.look(1).is(0);
            for (int i = 0; i < 33; i++) {
                x.days(30).is(0);
            }
            x.days(8).is(0);
            x.look(1).is(998);
            x.days(2).isRefused(NONE);
            x.days(1).is(0);
            x.look(1).is(999);
            x.days(1).isRefused(NONE);
            x.undo().is(true);
            x.look(1).is(998);
        });
    }
}
