import java.io.IOException;

/** The boundaries of part 4 of "Terms": what is asked in thought, undo, the image. */
public final class EdgesOfThought {
    private static final int NONE = Edges.NONE;
    private static final String FOUR = "Terms 4";

    private EdgesOfThought() {
    }

    public static void main(String[] args) throws IOException {
        Sentences.open(args[0]);
        nothingStays();
        keys();
        fair();
        heard();
        read();
        readFits();
        duet();
        best();
        canon();
        weighed();
        found();
        calls();
        callsWeigh();
        choir();
        worlds();
        sureAndAsk();
        chord();
        undo();
        undoKeepsSix();
        undoForgets();
        image();
        imageOfAll();
        imageLeavesOut();
        Sentences.close("EdgesOfThought", FOUR);
    }

    private static void nothingStays() {
        Sentences.of(FOUR, "IN THOUGHT (nothing of it stays; no DRAWS).", x -> {
            Edges.fullBench(x);
            x.witness(1, 60, 9);
            for (int what = -1; what <= 2; what++) {
                x.keys(0, 0, what).changesNothing();
                x.fair(0, 0, 19, what).changesNothing();
                x.read(what, 0).changesNothing();
                x.read(1, what).changesNothing();
                x.duet(what, 1).changesNothing();
                x.best(0, 0, 1, what).changesNothing();
                x.canon(0, what).changesNothing();
                x.weighed(0, what).changesNothing();
                x.found(what).changesNothing();
                x.calls(0, 0, what).changesNothing();
                x.choir(what).changesNothing();
                x.worlds(1, what).changesNothing();
                x.chord(0, 1, 2, 3, 20, what).changesNothing();
                x.of(0, what).changesNothing();
                x.testimony(0, what).changesNothing();
                x.bar(what).changesNothing();
                x.motive(0, what).changesNothing();
                x.book(0, what).changesNothing();
                x.fault(what).changesNothing();
                x.look(what).changesNothing();
            }
            x.of(0, 6).changesNothing();
            x.testimony(0, 7).changesNothing();
        });
    }

    private static void keys() {
        Sentences.of(FOUR, "KEYS of a WITNESS and a FACT: those in which it can be sung: how many, the lowest, the"
            + " highest.", x -> {
            x.witness(1, 60, 9);
            x.witness(10, 30, 9);
            x.witness(60, 60, 9);
            x.witness(1, 1, 9);
            for (int w = 0; w < 4; w++) {
                x.claim(w, 0, 0);
            }
            String[] motives = {"", "up 20", "up 21", "down 20", "down 21", "up 10 down 20", "up 10 down 21",
                "up 24 up 24 up 11", "up 24 up 24 up 12", "same"};
            int[][][] due = {{{60, 0, 59}, {21, 9, 29}, {1, 59, 59}, {1, 0, 0}},
                {{40, 0, 39}, {1, 9, 9}, {0, NONE, NONE}, {0, NONE, NONE}},
                {{39, 0, 38}, {0, NONE, NONE}, {0, NONE, NONE}, {0, NONE, NONE}},
                {{40, 20, 59}, {1, 29, 29}, {0, NONE, NONE}, {0, NONE, NONE}},
                {{39, 21, 59}, {0, NONE, NONE}, {0, NONE, NONE}, {0, NONE, NONE}},
                {{40, 10, 49}, {1, 19, 19}, {0, NONE, NONE}, {0, NONE, NONE}},
                {{39, 11, 49}, {0, NONE, NONE}, {0, NONE, NONE}, {0, NONE, NONE}},
                {{1, 0, 0}, {0, NONE, NONE}, {0, NONE, NONE}, {0, NONE, NONE}},
                {{0, NONE, NONE}, {0, NONE, NONE}, {0, NONE, NONE}, {0, NONE, NONE}},
                {{60, 0, 59}, {21, 9, 29}, {1, 59, 59}, {1, 0, 0}}};
            for (int i = 0; i < motives.length; i++) {
                x.tell(0, "motive 0 0 " + motives[i] + ";").is(1);
                for (int w = 0; w < 4; w++) {
                    for (int what = 0; what < 3; what++) {
                        x.keys(w, 0, what).is(due[i][w][what]);
                    }
                }
            }
        });
    }

    private static int likely(int[] slips, int e) {
        long[] c = new long[slips.length + 1];
        c[0] = 1000000;
        for (int slip : slips) {
            long[] next = new long[c.length];
            for (int k = 0; k < c.length; k++) {
                next[k] = c[k] * (1000 - slip) / 1000 + (k == 0 ? 0 : c[k - 1] * slip / 1000);
            }
            c = next;
        }
        long sum = 0;
        for (int k = 0; k <= e && k < c.length; k++) {
            sum += c[k];
        }
        return (int) sum;
    }

    private static void fair() {
        Sentences.of(FOUR, "FAIR: of a million, that a CALL in a KEY has e SLIPS at most: NOTE by NOTE (k SLIPS:"
            + " c(k) times (1000 less slip) by 1000 + c(k - 1) times slip by 1000, each downwards; a million at 0),"
            + " those of 0 .. e added.", x -> {
            Edges.singer(x, 1, 60, 1, "up 1 up 1 up 1 up 1 up 1 up 1 up 1");
            for (int base = 3; base <= 300; base += 99) {
                x.tell(1, "slip " + base + " + bar * 37;").is(1);
                int[] slips = new int[8];
                for (int i = 0; i < 8; i++) {
                    slips[i] = base + i * 37;
                }
                for (int e = 0; e <= 9; e++) {
                    x.fair(0, 0, 20, e).is(likely(slips, e));
                }
            }
            x.fair(0, 0, 20, 8).is(x.fair(0, 0, 20, 9).value());
            x.tell(1, "slip 0;").is(1);
            x.fair(0, 0, 20, 0).is(1000000);
            x.tell(1, "slip 1000;").is(1);
            x.fair(0, 0, 20, 7).is(0);
            x.fair(0, 0, 20, 8).is(1000000);
            x.tell(1, "slip 1;").is(1);
            x.fair(0, 0, 20, 0).is(likely(new int[] {1, 1, 1, 1, 1, 1, 1, 1}, 0));
            x.tell(1, "slip 1000 when note = 21; slip 0;").is(2);
            x.fair(0, 0, 20, 0).is(0);
            x.fair(0, 0, 20, 1).is(1000000);
            x.fair(0, 0, 21, 0).is(1000000);
            x.tell(1, "slip 1000 when note = 24 or room = 60 - 28; slip 0;").is(2);
            x.fair(0, 0, 20, 1).is(0);
            x.fair(0, 0, 20, 2).is(1000000);
            x.fair(0, 0, 21, 2).is(1000000);
            x.fair(0, 0, 28, 0).is(1000000);
            x.tell(0, "motive 0 0;").is(1);
            x.tell(1, "slip 333;").is(1);
            x.fair(0, 0, 20, 0).is(667000);
            x.fair(0, 0, 20, 1).is(1000000);
            x.fair(0, 0, 59, 9).is(1000000);
            x.look(5).is(0);
        });
    }

    private static void heard() {
        Sentences.of(FOUR, "HEARD: NOTES, up to 12 told.", x -> {
            for (int i = 1; i <= 11; i++) {
                x.heard(i).is(i);
            }
            x.heard(60).is(12);
            x.look(9).is(12);
            x.heard(1).isRefused(NONE);
            x.look(9).is(12);
            x.heard(0).is(0);
            x.look(9).is(0);
            x.heard(1).is(1);
        });
    }

    private static void hear(LoggedBench x, int... notes) {
        x.heard(0).is(0);
        for (int i = 0; i < notes.length; i++) {
            x.heard(notes[i]).is(i + 1);
        }
    }

    private static void read() {
        Sentences.of(FOUR, "READ: MOTIVES of just so many NOTES", x -> {
            x.tell(0, "motive 0 0;motive 0 1 same;motive 0 2 same same;motive 5 3" + Edges.repeated(" same",
                7) + ";").is(4);
            x.read(9, 0).is(0);
            int[] due = {0, 1, 2, NONE, NONE, NONE, NONE, 23, NONE, NONE, NONE, NONE};
            for (int i = 0; i < 12; i++) {
                x.heard(30).is(i + 1);
                x.read(0, 0).is(due[i] == NONE ? 0 : 1);
                x.read(0, 1).is(due[i]);
                x.read(9, 1).is(due[i]);
                x.read(9, 2).is(due[i] == NONE ? NONE : 0);
            }
        });
        Sentences.of(FOUR, "so that at most e (0 .. 9) NOTES are unlike: how many", x -> {
            x.tell(0, "motive 2 1" + Edges.repeated(" same", 7) + ";").is(1);
            for (int e : Edges.beyond(0, 9)) {
                x.read(e, 0).isRefused(NONE);
            }
            hear(x, 10, 10, 10, 10, 10, 10, 10, 10);
            for (int unlike = 0; unlike < 7; unlike++) {
                for (int e = 0; e <= 9; e++) {
                    x.read(e, 0).is(e >= unlike ? 1 : 0);
                }
                x.read(9, 2).is(unlike);
                int[] next = {10, 10, 10, 10, 10, 10, 10, 10};
                for (int i = 0; i <= unlike; i++) {
                    next[7 - i] = 20 + i;
                }
                hear(x, next);
            }
        });
        Sentences.of(FOUR, "the first (by FACT, VALUE): FACT times 4 + VALUE; its fewest unlike ones.", x -> {
            x.tell(0, "motive 5 3 up 1;motive 5 0 up 2;motive 3 2 up 1;motive 0 3 up 3;").is(4);
            hear(x, 20, 21);
            x.read(0, 0).is(2);
            x.read(0, 1).is(14);
            x.read(0, 2).is(0);
            x.read(1, 0).is(4);
            x.read(1, 1).is(3);
            x.read(1, 2).is(1);
            hear(x, 20, 22);
            x.read(0, 1).is(20);
            hear(x, 20, 20);
            x.read(0, 0).is(0);
            x.read(0, 1).is(NONE);
            x.read(0, 2).is(NONE);
            x.read(1, 0).is(4);
            x.tell(0, "motive 5 3;motive 0 0 same;").is(2);
            hear(x, 1);
            x.read(0, 1).is(23);
        });
    }

    /** What lies beyond the notes is no note that is unlike: a key must be one from which all notes are notes. */
    private static void readFits() {
        Sentences.of(FOUR, "that fit from some KEY", x -> {
            x.tell(0, "motive 0 0 up 24 up 24 up 11;").is(1);
            hear(x, 1, 25, 49, 60);
            x.read(0, 0).is(1);
            x.read(0, 2).is(0);
            hear(x, 2, 26, 50, 60);
            x.read(2, 0).is(0);
            x.read(3, 2).is(3);
            x.tell(0, "motive 0 0 up 24 up 24 up 12;").is(1);
            x.read(9, 0).is(0);
            x.tell(0, "motive 0 0 down 24 down 24 down 11;").is(1);
            hear(x, 60, 36, 12, 1);
            x.read(0, 2).is(0);
            hear(x, 59, 35, 11, 1);
            x.read(2, 0).is(0);
            x.read(3, 2).is(3);
            x.tell(0, "motive 0 0 down 24 down 24 down 12;").is(1);
            x.read(9, 0).is(0);
            x.tell(0, "motive 0 0;").is(1);
            hear(x, 1);
            x.read(0, 0).is(1);
            hear(x, 60);
            x.read(0, 0).is(1);
        });
    }

    private static void duet() {
        Sentences.of(FOUR, "DUET of two TESTIMONIES: from their first BARS on BAR by BAR, as long as both: in how"
            + " many both are no rests and SOUND together.", x -> {
            x.witness(1, 60, 1);
            x.witness(1, 60, 2);
            x.witness(1, 60, 9);
            x.tell(0, "motive 0 0 same same same;motive 0 1;").is(2);
            x.tell(1, "slip 0;").is(1);
            for (int w = 0; w < 3; w++) {
                x.claim(w, 0, 0);
                x.call(w, 0, 20).is(0);
            }
            x.claim(2, 0, 1);
            x.call(2, 0, 20).is(0);
            x.call(2, 0, 21).is(0);
            int[][] due = {{4, 2, 2, 1, 0}, {2, 4, 3, 1, 0}, {2, 3, 4, 1, 0}, {1, 1, 1, 1, 0}, {0, 0, 0, 0, 1}};
            for (int a = 0; a < 5; a++) {
                for (int b = 0; b < 5; b++) {
                    x.duet(a, b).is(due[a][b]);
                }
            }
            x.strike(0).is(true);
            x.duet(0, 1).is(2);
            x.set(0, 0, 2).is(true);
            x.duet(0, 1).is(0);
            x.duet(0, 4).is(1);
        });
    }

    private static void best() {
        Sentences.of(FOUR, "BEST: of a WITNESS's KEYS on a FACT that in which his MELODY (without rests, no SLIPS)"
            + " SOUNDS with the NOTES of a TESTIMONY in most BARS; of several the lowest.", x -> {
            x.witness(1, 60, 9);
            x.witness(20, 40, 1);
            x.claim(0, 0, 0);
            x.claim(1, 0, 1);
            x.tell(0, "motive 0 0 same same;motive 0 1 same same;").is(2);
            x.tell(1, "slip 0;").is(1);
            x.call(0, 0, 29).is(0);
            x.set(0, 0, 1);
            x.best(1, 0, 0, 0).is(29);
            x.best(1, 0, 0, 1).is(3);
            x.best(0, 0, 0, 0).is(5);
            x.best(0, 0, 0, 1).is(3);
            x.set(0, 0, 1 << 10);
            x.best(1, 0, 0, 0).is(19);
            x.best(1, 0, 0, 1).is(3);
            x.set(0, 0, 1 << 11);
            x.best(1, 0, 0, 0).is(19);
            x.best(1, 0, 0, 1).is(0);
            x.set(0, 0, 4095);
            x.best(1, 0, 0, 0).is(19);
            x.best(1, 0, 0, 1).is(3);
            x.tell(1, "slip 1000;").is(1);
            x.call(1, 0, 29).is(3);
            x.set(0, 0, 1);
            x.best(1, 0, 1, 0).is(28);
            x.best(1, 0, 1, 1).is(2);
            x.tell(0, "motive 0 0 same same same same;motive 0 1;").is(2);
            x.best(0, 0, 1, 0).is(4);
            x.best(0, 0, 1, 1).is(3);
            x.best(1, 0, 1, 1).is(1);
            x.tell(0, "motive 0 0" + Edges.repeated(" same", 7) + ";motive 0 1;").is(2);
            x.set(0, 0, 4095);
            x.tell(1, "slip 0;").is(1);
            x.call(1, 0, 29).is(0);
            x.call(1, 0, 29).is(0);
            x.best(0, 0, 0, 1).is(3);
            x.best(0, 0, 1, 1).is(3);
            x.best(0, 0, 2, 1).is(1);
            x.best(0, 0, 3, 1).is(1);
            x.set(0, 0, 1);
            x.tell(0, "motive 0 1 up 20;").is(1);
            x.best(1, 0, 0, 0).is(19);
            x.best(1, 0, 0, 1).is(0);
            x.tell(0, "motive 0 1 up 21;").is(1);
            x.best(1, 0, 0, 0).is(NONE);
            x.best(1, 0, 0, 1).is(NONE);
        });
    }

    private static void canon() {
        Sentences.of(FOUR, "CANON of a TESTIMONY behind d (1 .. 30) BARS: in how many BARS it SOUNDS with itself d"
            + " BARS ahead.", x -> {
            Edges.singer(x, 1, 60, 1, Edges.repeated(" same", 7));
            x.call(0, 0, 20).is(0);
            x.tell(0, "motive 0 0 up 1;").is(1);
            x.call(0, 0, 20).is(0);
            x.tell(0, "motive 0 0;").is(1);
            x.call(0, 0, 20).is(0);
            for (int d : Edges.beyond(1, 30)) {
                x.canon(0, d).isRefused(NONE);
            }
            for (int d = 1; d <= 30; d++) {
                x.canon(0, d).is(d % 2 == 0 && d <= 14 ? 8 - d / 2 : 0);
            }
            x.canon(1, 2).is(0);
            x.set(0, 0, 2);
            x.canon(1, 1).is(0);
            x.canon(1, 2).is(1);
            x.canon(1, 3).is(0);
            x.canon(0, 2).is(0);
            x.canon(2, 1).is(0);
            x.canon(2, 30).is(0);
        });
    }

    private static void weighed() {
        Sentences.of(FOUR, "WEIGHED of a FACT and VALUE: weight of all TESTIMONIES of it, neither STRUCK nor with"
            + " more SLIPS than FLATS (WITNESSES as they are now; half downwards, if he is HOARSE now).", x -> {
            x.witness(1, 60, 9);
            x.witness(1, 60, 9);
            x.claim(0, 0, 0);
            x.claim(1, 0, 0);
            x.tell(0, "motive 0 0 same same;motive 0 1;motive 1 0;").is(3);
            for (int slips = 0; slips <= 3; slips++) {
                x.tell(1, "slip 1000 when bar < " + slips + ";slip 0;shake 0;").is(3);
                x.call(0, 0, 20).is(slips);
            }
            x.call(1, 0, 20).is(3);
            x.tell(1, "weight nerve;").is(1);
            x.set(2, 0, 0);
            x.weighed(0, 0).is(50);
            x.set(2, 0, 2);
            x.weighed(0, 0).is(150);
            x.set(2, 0, 3);
            x.weighed(0, 0).is(250);
            x.set(3, 1, 99);
            x.weighed(0, 0).is(200 + 99);
            x.set(4, 1, 1);
            x.weighed(0, 0).is(200 + 49);
            x.strike(0).is(true);
            x.weighed(0, 0).is(150 + 49);
            x.strike(4).is(true);
            x.weighed(0, 0).is(150);
            x.undo().is(true);
            x.weighed(0, 0).is(150 + 49);
            x.weighed(0, 1).is(0);
            x.weighed(1, 0).is(0);
            x.claim(0, 0, 1);
            x.weighed(0, 0).is(150 + 49);
            x.weighed(0, 1).is(0);
        });
    }

    /** So many testimonies of each of the four values of fact 0, each of which weighs 10. */
    private static void sungForValues(LoggedBench x, int... howMany) {
        x.witness(1, 60, 9);
        x.tell(0, Edges.motives(4)).is(4);
        x.tell(1, "slip 0; weight 10;").is(2);
        for (int value = 0; value < howMany.length; value++) {
            x.claim(0, 0, value).is(true);
            for (int i = 0; i < howMany[value]; i++) {
                x.call(0, 0, 20).is(0);
            }
        }
    }

    private static void found() {
        Sentences.of(FOUR, "FOUND of a FACT: the VALUE that weighs most, if that is NEED at least, and more than"
            + " each other one.", x -> {
            sungForValues(x, 1, 2, 3, 1);
            for (int need : new int[] {1, 29, 30}) {
                x.set(1, 0, need);
                x.found(0).is(2);
            }
            for (int need : new int[] {31, 999}) {
                x.set(1, 0, need);
                x.found(0).is(NONE);
            }
            x.set(1, 0, 1);
            x.strike(3).is(true);
            x.found(0).is(NONE);
            x.strike(1).is(true);
            x.found(0).is(2);
            x.found(1).is(NONE);
            LoggedBench y = new LoggedBench();
            sungForValues(y, 2, 0, 0, 2);
            y.set(1, 0, 1);
            y.found(0).is(NONE);
            y.call(0, 0, 20).is(0);
            y.found(0).is(3);
            y.strike(2).is(true);
            y.strike(3).is(true);
            y.found(0).is(0);
            LoggedBench z = new LoggedBench();
            sungForValues(z, 1, 1, 1, 1);
            z.set(1, 0, 1);
            String[] weights = {"weight 10 - value;", "weight 10 when value = 1;weight 9;",
                "weight 10 when value = 2;weight 9;", "weight 10 + value;"};
            for (int value = 0; value < 4; value++) {
                z.tell(1, weights[value]);
                z.found(0).is(value);
            }
            z.tell(1, "weight 10 when value > 1;weight 9;").is(2);
            z.found(0).is(NONE);
        });
    }

    private static void calls() {
        Sentences.of(FOUR, "CALLS for a FACT and VALUE: the fewest WITNESSES of that CLAIM (who can sing it in some"
            + " KEY), each once, so that, all without SLIPS, it would be FOUND", x -> {
            for (int w = 0; w < 8; w++) {
                x.witness(10, 30, 9).is(w);
                x.claim(w, 5, 3);
            }
            x.tell(0, "motive 5 3;").is(1);
            for (int n = 1; n <= 8; n++) {
                x.set(1, 0, 4 * n);
                x.calls(5, 3, 0).is(n);
                x.calls(5, 3, 1).is((1 << n) - 1);
                x.set(1, 0, 4 * n + 1);
                x.calls(5, 3, 0).is(n < 8 ? n + 1 : NONE);
            }
            x.calls(5, 3, 1).is(NONE);
            x.set(1, 0, 1);
            x.calls(5, 3, 0).is(1);
            x.tell(0, "motive 5 3 up 20;").is(1);
            x.calls(5, 3, 0).is(1);
            x.tell(0, "motive 5 3 up 21;").is(1);
            x.calls(5, 3, 0).is(NONE);
            x.calls(5, 3, 1).is(NONE);
            x.tell(0, "motive 5 2;").is(1);
            x.calls(5, 3, 0).is(NONE);
            x.calls(5, 2, 0).is(NONE);
            x.claim(6, 5, 2);
            x.calls(5, 2, 1).is(64);
        });
        Sentences.of(FOUR, "so that, all without SLIPS, it would be FOUND", x -> {
            x.witness(1, 60, 9);
            x.witness(1, 60, 9);
            x.witness(1, 60, 9);
            x.claim(0, 0, 0);
            x.claim(1, 0, 1);
            x.claim(2, 0, 1);
            x.tell(0, "motive 0 0;motive 0 1;").is(2);
            x.tell(1, "slip 0;").is(1);
            x.set(1, 0, 4);
            x.calls(0, 0, 0).is(1);
            x.call(0, 0, 20).is(0);
            x.found(0).is(0);
            x.calls(0, 0, 0).is(0);
            x.calls(0, 0, 1).is(0);
            x.calls(0, 1, 0).is(2);
            x.calls(0, 1, 1).is(6);
            x.call(0, 0, 20).is(0);
            x.calls(0, 1, 0).is(NONE);
            x.call(1, 0, 20).is(0);
            x.calls(0, 1, 0).is(2);
            x.calls(0, 0, 0).is(0);
            x.call(2, 0, 20).is(0);
            x.found(0).is(NONE);
            x.calls(0, 0, 0).is(1);
            x.calls(0, 1, 1).is(2);
            for (int i = 0; i < 8; i++) {
                x.call(0, 0, 20).is(0);
                x.call(1, 0, 20).is(0);
            }
            x.look(2).is(20);
            x.calls(0, 0, 1).is(1);
            x.tell(1, "weight 2 when sung = 1;weight 0 when value = 0;weight 1;").is(3);
            x.weighed(0, 0).is(0);
            x.weighed(0, 1).is(11);
            x.calls(0, 0, 0).is(NONE);
            x.tell(1, "weight 0 when sung = 1;weight 1;").is(2);
            x.weighed(0, 0).is(10);
            x.weighed(0, 1).is(9);
            x.calls(0, 1, 0).is(NONE);
            x.set(3, 1, 9);
            x.tell(1, "weight 0 when sung = 1;weight 2 when nerve = 9;weight 2;").is(3);
            x.calls(0, 1, 0).is(NONE);
            x.claim(2, 0, 0);
            x.claim(0, 0, 1);
            x.tell(1, "weight 0 when sung = 1;weight 1;").is(2);
            x.calls(0, 1, 0).is(2);
            x.calls(0, 1, 1).is(3);
        });
    }

    private static void callsWeigh() {
        Sentences.of(FOUR, "(each adds its weight, as now, with no SLIPS, sung as now, half if HOARSE, to what is"
            + " WEIGHED): how many; the set (of several the least).", x -> {
            for (int w = 0; w < 4; w++) {
                x.witness(1, 60, 9).is(w);
                x.claim(w, 0, 0);
                x.set(3, w, 10 + w);
            }
            x.tell(0, "motive 0 0;").is(1);
            x.tell(1, "slip 0;shake 0;weight nerve - slips * 9;").is(3);
            x.set(1, 0, 10);
            x.calls(0, 0, 1).is(1);
            x.set(1, 0, 11);
            x.calls(0, 0, 1).is(2);
            x.set(1, 0, 13);
            x.calls(0, 0, 1).is(8);
            x.set(1, 0, 14);
            x.calls(0, 0, 1).is(3);
            x.set(1, 0, 22);
            x.calls(0, 0, 1).is(5);
            x.set(1, 0, 23);
            x.calls(0, 0, 1).is(6);
            x.set(1, 0, 26);
            x.calls(0, 0, 1).is(7);
            x.set(1, 0, 25);
            x.calls(0, 0, 1).is(12);
            x.set(4, 3, 1);
            x.calls(0, 0, 1).is(7);
            x.set(1, 0, 7);
            x.calls(0, 0, 1).is(1);
            x.set(3, 0, 0);
            x.set(3, 1, 0);
            x.set(3, 2, 0);
            x.set(1, 0, 6);
            x.calls(0, 0, 1).is(8);
            x.set(1, 0, 7);
            x.calls(0, 0, 1).is(NONE);
            x.tell(1, "slip 0;shake 0;weight sung * 3 + 1;").is(3);
            x.call(0, 0, 20).is(0);
            x.weighed(0, 0).is(4);
            x.set(1, 0, 8);
            x.calls(0, 0, 1).is(1);
            x.set(1, 0, 9);
            x.calls(0, 0, 1).is(3);
        });
    }

    private static void choir() {
        Sentences.of(FOUR, "CHOIR: the most WITNESSES no two of whom have unlike CLAIMS of a FACT; of several the"
            + " least set.", x -> {
            x.choir(0).is(0);
            x.choir(1).is(0);
            for (int w = 0; w < 8; w++) {
                x.witness(1, 60, 9);
                x.choir(0).is(w + 1);
                x.choir(1).is((2 << w) - 1);
            }
            for (int w = 0; w < 8; w++) {
                x.claim(w, 5, 3);
            }
            x.choir(1).is(255);
            x.claim(0, 5, 0);
            x.choir(0).is(7);
            x.choir(1).is(254);
            x.claim(0, 5, NONE);
            x.choir(1).is(255);
            for (int w = 0; w < 4; w++) {
                x.claim(w, 5, 0);
            }
            x.choir(0).is(4);
            x.choir(1).is(15);
            x.claim(0, 5, 3);
            x.choir(0).is(5);
            x.choir(1).is(241);
            for (int w = 0; w < 8; w++) {
                x.claim(w, 5, NONE);
                x.claim(w, w % 6, w / 6);
            }
            x.choir(0).is(6);
            x.choir(1).is(63);
            for (int w = 0; w < 4; w++) {
                x.claim(w, 4, w);
            }
            x.claim(4, 4, NONE);
            x.claim(6, 0, NONE);
            x.claim(7, 1, NONE);
            x.choir(0).is(5);
            x.choir(1).is(241);
        });
    }

    private static void worlds() {
        Sentences.of(FOUR, "LIARS e (0 .. 8): WORLDS: a VALUE of each FACT, with e WITNESSES at most who have a"
            + " CLAIM that is not so: how many", x -> {
            for (int e : Edges.beyond(0, 8)) {
                x.worlds(e, 0).isRefused(NONE);
            }
            x.worlds(0, 0).is(4096);
            x.worlds(8, 0).is(4096);
            for (int w = 0; w < 8; w++) {
                x.witness(1, 60, 9);
                x.worlds(0, 0).is(w == 0 ? 4096 : 1024);
                x.claim(w, 0, 2);
                x.worlds(w, 0).is(1024);
                x.worlds(w + 1, 0).is(4096);
            }
            x.worlds(7, 0).is(1024);
            x.worlds(8, 0).is(4096);
            x.claim(7, 0, NONE);
            x.worlds(7, 0).is(4096);
            x.claim(7, 0, 3);
            x.worlds(0, 0).is(0);
            x.worlds(1, 0).is(1024);
            x.worlds(6, 0).is(1024);
            x.worlds(7, 0).is(2048);
            x.worlds(8, 0).is(4096);
            LoggedBench y = new LoggedBench();
            y.witness(1, 60, 9);
            for (int fact = 0; fact < 6; fact++) {
                y.claim(0, fact, 3);
                y.worlds(0, 0).is(1024 >> 2 * fact);
                y.worlds(1, 0).is(4096);
            }
        });
    }

    private static void sureAndAsk() {
        Sentences.of(FOUR, "SURE: FACTS that are alike in all (a set; all FACTS if there are no WORLDS)", x -> {
            x.worlds(0, 1).is(0);
            x.witness(1, 60, 9);
            x.witness(1, 60, 9);
            for (int fact = 0; fact < 6; fact++) {
                x.claim(0, fact, fact % 4);
                x.worlds(0, 1).is((2 << fact) - 1);
                x.worlds(1, 1).is(0);
            }
            x.claim(1, 3, 0);
            x.worlds(0, 0).is(0);
            x.worlds(0, 1).is(63);
            x.worlds(1, 1).is(0);
            x.claim(0, 3, NONE);
            x.worlds(0, 1).is(63);
            x.claim(1, 3, NONE);
            x.worlds(0, 1).is(63 - 8);
        });
        Sentences.of(FOUR, "ASK: the FACT for which of all WORLDS the VALUE with most of them has fewest; of"
            + " several the least.", x -> {
            x.worlds(0, 2).is(0);
            x.witness(1, 60, 9);
            x.witness(1, 60, 9);
            for (int fact = 0; fact < 6; fact++) {
                x.claim(0, fact, 1);
                x.claim(1, fact, 1);
                x.worlds(0, 2).is(fact < 5 ? fact + 1 : NONE);
                x.worlds(2, 2).is(0);
            }
            x.worlds(0, 0).is(1);
            x.claim(1, 3, 2);
            x.worlds(0, 0).is(0);
            x.worlds(0, 2).is(NONE);
            x.worlds(1, 0).is(2);
            x.worlds(1, 1).is(63 - 8);
            x.worlds(1, 2).is(3);
            x.claim(1, 5, 2);
            x.worlds(1, 0).is(2);
            x.worlds(1, 2).is(3);
            x.claim(1, 3, NONE);
            x.worlds(1, 0).is(1 + 4);
            x.worlds(1, 2).is(3);
            x.claim(0, 3, NONE);
            x.worlds(1, 0).is(8);
            x.worlds(1, 2).is(3);
            x.claim(0, 0, NONE);
            x.worlds(1, 0).is(4 * 4 + 4);
            x.worlds(1, 2).is(3);
            x.claim(1, 0, NONE);
            x.worlds(1, 0).is(2 * 4 * 4);
            x.worlds(1, 2).is(0);
        });
    }

    private static boolean sounds(int set, int a, int b) {
        return (set >> Math.abs(a - b) % 12 & 1) == 1;
    }

    /** How many chords there are, and the lowest one's notes, by trying all. */
    private static int[] chords(int set, int note, int[] second, int[] third, int[] last) {
        int[] all = {0, NONE, NONE, NONE};
        for (int b = second[0]; b <= second[1]; b++) {
            for (int c = third[0]; c <= third[1]; c++) {
                for (int d = last[0]; d <= last[1]; d++) {
                    boolean sound = sounds(set, note, b) && sounds(set, note, c) && sounds(set, note, d)
                        && sounds(set, b, c) && sounds(set, b, d) && sounds(set, c, d);
                    if (sound && all[0]++ == 0) {
                        all = new int[] {1, b, c, d};
                    }
                }
            }
        }
        return all;
    }

    private static void chord() {
        Sentences.of(FOUR, "CHORD of four WITNESSES (unlike) above a NOTE: that is the first one's; NOTES of the"
            + " others in their ranges so that each two SOUND: how many; the lowest: the second one's, then the"
            + " third one's, then the last one's least.", x -> {
            int[][] ranges = {{1, 60}, {20, 25}, {27, 28}, {1, 1}, {60, 60}, {30, 50}};
            for (int[] range : ranges) {
                x.witness(range[0], range[1], 1);
            }
            int[][] fours = {{0, 1, 2, 5, 1}, {0, 1, 2, 5, 60}, {1, 0, 2, 5, 20}, {1, 0, 2, 5, 25}, {1, 5,
                2, 0, 22},
                {3, 0, 1, 2, 1}, {4, 5, 1, 0, 60}, {0, 3, 4, 5, 13}, {5, 4, 3, 0, 37}, {5, 1, 0, 4, 36},
                {5, 0, 1, 3, 37}};
            for (int set : new int[] {953, 0, 1, 4095, 4094}) {
                x.set(0, 0, set).is(true);
                for (int[] f : fours) {
                    int[] due = chords(set, f[4], ranges[f[1]], ranges[f[2]], ranges[f[3]]);
                    for (int what = 0; what < 4; what++) {
                        x.chord(f[0], f[1], f[2], f[3], f[4], what).is(due[what]);
                    }
                }
            }
            int[][] alike = {{0, 0, 2, 3}, {0, 1, 0, 3}, {0, 1, 2, 0}, {0, 1, 1, 3}, {0, 1, 2, 1}, {0, 1, 2, 2}};
            for (int[] f : alike) {
                x.chord(f[0], f[1], f[2], f[3], 20, 0).is(NONE);
            }
            x.chord(1, 0, 2, 5, 19, 0).is(NONE);
            x.chord(1, 0, 2, 5, 26, 0).is(NONE);
        });
    }

    private static void undo() {
        Sentences.of(FOUR, "UNDO: the latest CALL, CROSSING, STRIKING, DAY, TRIAL not undone yet goes back (STATE,"
            + " THE BOOK, THE RECORD, too)", x -> {
            x.undo().isRefused();
            Edges.singer(x, 1, 60, 2, "up 1 up 1");
            x.tell(1, "slip 500;").is(1);
            x.tell(2, "call 0 on 0 in 9 rest cross 0").is(3);
            x.call(0, 0, 9);
            x.days(1);
            int mark = x.howManyCalls();
            for (int deed = 0; deed < 5; deed++) {
                switch (deed) {
                    case 0: x.call(0, 0, 20); break;
                    case 1: x.cross(0); break;
                    case 2: x.strike(0).is(true); break;
                    case 3: x.days(1); break;
                    default: x.trial().is(3); break;
                }
                x.look(10).is(3);
                x.undo().is(true);
                x.isAsBehind(mark);
            }
            x.undo().is(true);
            x.undo().is(true);
            x.undo().isRefused();
            x.look(5).is(0);
        });
        Sentences.of(FOUR, "the latest CALL, CROSSING, STRIKING, DAY, TRIAL not undone yet goes back", x -> {
            x.witness(1, 60, 9);
            x.set(3, 0, 99);
            x.days(3);
            x.look(10).is(3);
            x.cross(0).is(84);
            x.cross(0).is(69);
            x.undo().is(true);
            x.of(0, 3).is(84);
            x.cross(0).is(69);
            x.undo().is(true);
            x.undo().is(true);
            x.of(0, 3).is(99);
            x.look(1).is(3);
            x.undo().is(true);
            x.look(1).is(2);
            x.undo().is(true);
            x.undo().is(true);
            x.look(1).is(0);
            x.undo().isRefused();
        });
    }

    private static void undoKeepsSix() {
        Sentences.of(FOUR, "6 are kept;", x -> {
            x.witness(1, 60, 9);
            for (int deeds = 1; deeds <= 14; deeds++) {
                LoggedBench y = new LoggedBench();
                y.witness(1, 60, 9);
                y.tell(1, "shake 0;").is(1);
                for (int i = 0; i < deeds; i++) {
                    y.set(3, 0, 99);
                    y.look(10).is(0);
                }
                for (int i = 0; i < deeds; i++) {
                    y.days(1);
                    y.look(10).is(Math.min(6, i + 1));
                }
                for (int i = 0; i < Math.min(6, deeds); i++) {
                    y.look(1).is(deeds - i);
                    y.undo().is(true);
                }
                y.undo().isRefused();
                y.look(1).is(Math.max(0, deeds - 6));
                y.look(4).is(Math.max(0, deeds - 6));
            }
            x.days(30);
            x.look(10).is(6);
            x.undo().is(true);
            x.undo().is(true);
            x.look(1).is(28);
            x.days(3);
            x.look(10).is(6);
            for (int day = 31; day > 25; day--) {
                x.look(1).is(day);
                x.undo().is(true);
            }
            x.look(1).is(25);
            x.undo().isRefused();
        });
    }

    private static void forgets(LoggedBench x, LoggedBench.Answer told, int want) {
        told.is(want);
        x.look(10).is(0);
        x.undo().isRefused();
        x.cross(1);
        x.look(10).is(1);
    }

    private static void undoForgets() {
        Sentences.of(FOUR, "whatever else is told but THE LAW, HEARD (the taking of THE IMAGE does not) forgets"
            + " them.", x -> {
            Edges.fullBench(x);
            x.end(0).is(true);
            x.look(10).is(5);
            x.tell(1, "slip 1;").is(1);
            x.look(10).is(5);
            x.tell(1, "").is(0);
            x.look(10).is(5);
            x.heard(5).is(4);
            x.heard(0).is(0);
            x.image(true).is(true);
            x.put("motive 0 0;");
            x.end(3).is(true);
            x.look(10).is(5);
            x.undo().is(true);
            x.look(10).is(4);
            x.strike(0).is(true);
            x.look(10).is(5);
            int state = x.look(5).value();
            forgets(x, x.state(state), state);
            forgets(x, x.witness(1, 60, 1), 3);
            forgets(x, x.claim(0, 0, 0), 1);
            forgets(x, x.claim(0, 0, NONE), 1);
            forgets(x, x.set(0, 0, 953), 1);
            forgets(x, x.set(1, 0, 10), 1);
            forgets(x, x.set(2, 0, 1), 1);
            forgets(x, x.set(3, 0, 50), 1);
            forgets(x, x.set(4, 0, 0), 1);
            x.end(0);
            forgets(x, x.tell(0, ""), 0);
            forgets(x, x.tell(2, "rest"), 1);
            forgets(x, x.image(false), 1);
        });
    }

    private static void image() {
        Sentences.of(FOUR, "THE IMAGE: all that is and was told", x -> {
            Edges.fullBench(x);
            int mark = x.howManyCalls();
            x.image(true).is(true);
            x.look(10).is(5);
            x.state(5);
            x.witness(3, 4, 5).is(3);
            x.claim(0, 0, 3);
            x.claim(1, 5, NONE);
            x.set(0, 0, 1);
            x.set(1, 0, 99);
            x.set(2, 0, 9);
            x.set(3, 0, 1);
            x.set(4, 1, 1);
            x.heard(0);
            x.heard(9);
            x.image(false).is(true);
            x.isImageOf(mark);
            x.end(0).is(true);
            x.tell(0, "motive 0 0 down 9;motive 4 2;").is(2);
            x.tell(1, "slip 1000;").is(1);
            x.tell(2, "rest rest rest").is(3);
            x.trial().is(3);
            x.call(1, 0, 30).is(2);
            x.strike(1).is(true);
            x.put("motive 0 0;");
            x.image(false).is(true);
            x.isImageOf(mark);
        });
        Sentences.of(FOUR, "as it was when it was taken; gone back to it may be more than once.", x -> {
            x.image(false).isRefused();
            x.witness(1, 60, 9);
            x.image(true).is(true);
            for (int time = 0; time < 5; time++) {
                x.cross(0).is(35);
                x.days(2);
                x.image(false).is(true);
                x.of(0, 3).is(50);
                x.look(1).is(0);
                x.look(5).is(0);
            }
            x.cross(0).is(35);
            x.image(true).is(true);
            x.image(true).is(true);
            x.cross(0).is(20);
            x.image(false).is(true);
            x.image(false).is(true);
            x.of(0, 3).is(35);
            x.look(4).is(1);
        });
    }

    /** What was sung, written, claimed and heard, though other things took its place since. */
    private static void imageOfAll() {
        Sentences.of(FOUR, "as it was when it was taken", x -> {
            for (int w = 0; w < 8; w++) {
                x.witness(1 + w, 60, 9);
                for (int fact = 0; fact < 6; fact++) {
                    x.claim(w, fact, (w + fact) % 4);
                }
            }
            x.tell(0, Edges.motives(16)).is(16);
            x.tell(1, "slip 0;shake 0;").is(2);
            x.tell(2, "call 3 on 0 in 20 rest").is(2);
            x.days(30);
            x.days(30);
            x.days(30);
            x.days(24);
            for (int i = 0; i < 6; i++) {
                x.call(i, 0, 10 + i).is(0);
            }
            x.heard(9);
            x.look(4).is(120);
            int mark = x.howManyCalls();
            x.image(true).is(true);
            for (int i = 0; i < 6; i++) {
                x.undo().is(true);
            }
            for (int i = 0; i < 6; i++) {
                x.cross(7 - i);
            }
            x.tell(1, "slip 1000;").is(1);
            for (int i = 0; i < 4; i++) {
                x.call(6, 1, 30 + i).is(1);
            }
            x.heard(0);
            x.heard(8);
            for (int w = 0; w < 8; w++) {
                for (int fact = 0; fact < 6; fact++) {
                    x.claim(w, fact, (w + fact + 1) % 4);
                }
            }
            x.image(false).is(true);
            x.isImageOf(mark);
            x.bar(0).is(11);
            x.bar(5).is(16);
            x.testimony(5, 0).is(5);
            x.book(114, 1).is(0);
            x.book(119, 2).is(5);
            x.of(7, 15).is(0);
            x.look(9).is(1);
        });
    }

    private static void imageLeavesOut() {
        Sentences.of(FOUR, "but the TAPE, fault() and what can be undone (nothing then)", x -> {
            x.witness(1, 60, 9);
            x.cross(0).is(35);
            x.put("motive 0 0;");
            x.image(true).is(true);
            x.look(10).is(1);
            x.end(0).is(true);
            x.tell(0, "motive 0 9").is(NONE);
            x.put("slip 1;");
            x.cross(0).is(20);
            x.look(10).is(2);
            x.image(false).is(true);
            x.look(10).is(0);
            x.undo().isRefused();
            x.fault(0).is(2);
            x.fault(1).is(9);
            x.end(8).is(false);
            x.end(7).is(true);
            x.text(1).is(1);
            x.fault(0).is(0);
            x.image(false).is(true);
            x.look(7).is(0);
            x.fault(0).is(0);
            x.cross(0).is(20);
            x.undo().is(true);
            x.of(0, 3).is(35);
            x.undo().isRefused();
        });
    }
}
