import java.io.IOException;

/** The boundaries of part 3 of "Terms": melodies, calls, crossings, strikings, days, trials, the book. */
public final class EdgesOfDeeds {
    private static final int NONE = Edges.NONE;
    private static final String THREE = "Terms 3";

    private EdgesOfDeeds() {
    }

    public static void main(String[] args) throws IOException {
        Sentences.open(args[0]);
        melody();
        range();
        toCall();
        fewerThanTwenty();
        roomForBars();
        breath();
        slips();
        flatNoteOne();
        nerveBehindACall();
        theTestimony();
        toCross();
        toStrike();
        dayOfRest();
        trialGoesOn();
        theBook();
        bookOfEachDeed();
        Sentences.close("EdgesOfDeeds", THREE);
    }

    private static void bars(LoggedBench x, int first, int... notes) {
        for (int i = 0; i < notes.length; i++) {
            x.bar(first + i).is(notes[i]);
        }
    }

    private static void melody() {
        Sentences.of(THREE, "A MELODY of a CLAIM from a KEY n (0 .. 59): the first NOTE is n + 1", x -> {
            Edges.singer(x, 1, 60, 9, "");
            for (int key : Edges.beyond(0, 59)) {
                x.call(0, 0, key).isRefused(NONE);
                x.fair(0, 0, key, 0).isRefused(NONE);
            }
            x.call(0, 0, 0).is(0);
            x.call(0, 0, 59).is(0);
            x.call(0, 0, 30).is(0);
            bars(x, 0, 1, 60, 31, NONE);
        });
        Sentences.of(THREE, "each next one by a step of the MOTIVE", x -> {
            Edges.singer(x, 1, 60, 9, "up 24 same down 24 up 1 down 1 up 3 down 3");
            x.call(0, 0, 0).is(0);
            bars(x, 0, 1, 25, 25, 1, 2, 1, 4, 1, NONE);
            x.call(0, 0, 35).is(0);
            bars(x, 8, 36, 60, 60, 36, 37, 36, 39, 36, NONE);
            x.call(0, 0, 36).isRefused(NONE);
        });
    }

    private static void range() {
        Sentences.of(THREE, "it can be sung, if there is a MOTIVE and all NOTES are in the WITNESS's range (and so"
            + " NOTES).", x -> {
            Edges.singer(x, 10, 30, 9, "up 15");
            x.call(0, 0, 8).isRefused(NONE);
            x.call(0, 0, 15).isRefused(NONE);
            x.call(0, 0, 9).is(0);
            x.call(0, 0, 14).is(0);
            bars(x, 0, 10, 25, 15, 30);
            x.tell(0, "motive 0 0 up 20 down 20;").is(1);
            x.keys(0, 0, 0).is(1);
            x.call(0, 0, 8).isRefused(NONE);
            x.call(0, 0, 10).isRefused(NONE);
            x.call(0, 0, 9).is(0);
            x.tell(0, "motive 0 0 up 21 down 21;").is(1);
            x.keys(0, 0, 0).is(0);
            for (int key = 8; key < 31; key++) {
                x.call(0, 0, key).is(NONE);
            }
            x.call(0, 0, 9).isRefused(NONE);
            x.tell(0, "motive 0 0 down 20 up 20;").is(1);
            x.call(0, 0, 28).isRefused(NONE);
            x.call(0, 0, 30).isRefused(NONE);
            x.call(0, 0, 29).is(0);
            x.tell(0, "motive 0 1;").is(1);
            x.call(0, 0, 15).isRefused(NONE);
        });
    }

    private static void toCall() {
        Sentences.of(THREE, "To CALL a WITNESS on a FACT of which there is a CLAIM, in a KEY in which it can be"
            + " sung", x -> {
            Edges.singer(x, 10, 30, 9, "");
            for (int w : Edges.beyond(0, 0)) {
                x.call(w, 0, 20).isRefused(NONE);
            }
            x.call(0, 1, 20).isRefused(NONE);
            x.call(0, 0, 8).isRefused(NONE);
            x.call(0, 0, 30).isRefused(NONE);
            x.call(0, 0, 9).is(0);
            x.call(0, 0, 29).is(0);
            x.claim(0, 0, NONE);
            x.call(0, 0, 20).isRefused(NONE);
            x.look(2).is(2);
        });
    }

    private static void fewerThanTwenty() {
        Sentences.of(THREE, "if there are fewer than 20 TESTIMONIES", x -> {
            Edges.singer(x, 1, 60, 9, "");
            for (int i = 0; i < 19; i++) {
                x.call(0, 0, i).is(0);
            }
            x.look(2).is(19);
            x.call(0, 0, 19).is(0);
            x.look(2).is(20);
            x.testimony(19, 4).is(19);
            x.bar(19).is(20);
            x.call(0, 0, 20).isRefused(NONE);
            x.strike(0).is(true);
            x.call(0, 0, 20).isRefused(NONE);
            x.undo().is(true);
            x.undo().is(true);
            x.look(2).is(19);
            x.call(0, 0, 40).is(0);
            x.bar(19).is(41);
            x.call(0, 0, 40).isRefused(NONE);
        });
    }

    /** Of each motive how many bars it has by breath 1: eight notes 15, three notes 5, two notes 3, one note 1. */
    private static void fill(LoggedBench x) {
        x.witness(1, 60, 1);
        x.witness(1, 60, 4);
        x.witness(1, 60, 9);
        x.tell(0, "motive 0 0" + Edges.repeated(" same", 7) + ";motive 0 1 same same;motive 0 2 same same same same;"
            + "motive 0 3 same same same same same;").is(4);
        x.tell(1, "slip 0;").is(1);
        x.claim(0, 0, 0);
        for (int i = 0; i < 13; i++) {
            x.call(0, 0, 5).is(0);
        }
        x.look(3).is(195);
    }

    private static void roomForBars() {
        Sentences.of(THREE, "and the RECORD has room for all BARS (200 at most)", x -> {
            fill(x);
            x.call(0, 0, 5).isRefused(NONE);
            x.claim(0, 0, 1);
            x.call(0, 0, 7).is(0);
            x.look(3).is(200);
            bars(x, 194, 6, 8, 0, 8, 0, 8, NONE);
            x.claim(0, 0, 1);
            x.call(0, 0, 7).isRefused(NONE);
            LoggedBench y = new LoggedBench();
            fill(y);
            y.claim(1, 0, 2);
            y.call(1, 0, 7).isRefused(NONE);
            y.claim(2, 0, 3);
            y.call(2, 0, 7).isRefused(NONE);
            y.claim(2, 0, 2);
            y.call(2, 0, 7).is(0);
            y.look(3).is(200);
            bars(y, 195, 8, 8, 8, 8, 8, NONE);
            LoggedBench z = new LoggedBench();
            fill(z);
            z.claim(0, 0, 2);
            z.call(0, 0, 7).isRefused(NONE);
            z.tell(0, "motive 0 0;motive 0 1 same;").is(2);
            z.claim(0, 0, 1);
            z.call(0, 0, 7).is(0);
            z.look(3).is(198);
            z.call(0, 0, 7).isRefused(NONE);
            z.claim(0, 0, 0);
            z.call(0, 0, 7).is(0);
            z.look(3).is(199);
            z.call(0, 0, 8).is(0);
            z.look(3).is(200);
            z.bar(199).is(9);
            z.call(0, 0, 8).isRefused(NONE);
            z.strike(0).is(true);
            z.call(0, 0, 8).isRefused(NONE);
        });
    }

    private static void breath() {
        Sentences.of(THREE, "ahead of each one, if BREATH NOTES were sung since the last rest (or the beginning), a"
            + " BAR of rest (0);", x -> {
            for (int breath = 1; breath <= 9; breath++) {
                for (int notes = 1; notes <= 8; notes++) {
                    LoggedBench y = new LoggedBench();
                    Edges.singer(y, 1, 60, breath, Edges.repeated(" up 1", notes - 1));
                    y.call(0, 0, 9).is(0);
                    int at = 0;
                    for (int i = 0; i < notes; i++) {
                        if (i > 0 && i % breath == 0) {
                            y.bar(at++).is(0);
                        }
                        y.bar(at++).is(10 + i);
                    }
                    y.look(3).is(at);
                    y.testimony(0, 5).is(at);
                    y.bar(at).is(NONE);
                }
            }
            Edges.singer(x, 1, 60, 2, "up 1 up 1");
            x.call(0, 0, 9).is(0);
            x.call(0, 0, 9).is(0);
            bars(x, 0, 10, 11, 0, 12, 10, 11, 0, 12, NONE);
        });
    }

    private static void slips() {
        Sentences.of(THREE, "a DRAW of 1000: below slip it is a SLIP: a half-tone flat (one less; what follows is"
            + " as it should be;", x -> {
            Edges.singer(x, 1, 60, 9, "");
            for (int draw : new int[] {0, 1, 500, 998, 999}) {
                x.state(Edges.stateDrawing(draw));
                for (int slip = Math.max(0, draw - 1); slip <= draw + 2; slip++) {
                    x.tell(1, "slip " + slip + ";").is(1);
                    x.call(0, 0, 30).is(draw < slip ? 1 : 0);
                    x.bar(0).is(draw < slip ? 30 : 31);
                    x.undo().is(true);
                }
            }
            LoggedBench y = new LoggedBench();
            Edges.singer(y, 1, 60, 2, "up 4 up 3 down 7");
            y.tell(1, "slip 500;").is(1);
            for (int state = 1; state <= 12; state++) {
                y.state(state);
                int[] notes = {10, 14, 17, 10};
                int slips = 0;
                for (int i = 0; i < 4; i++) {
                    boolean flat = Edges.draw(state, i, 1000) < 500;
                    slips += flat ? 1 : 0;
                    notes[i] -= flat ? 1 : 0;
                }
                y.call(0, 0, 9).is(slips);
                y.look(5).is(Edges.stateBehind(state, 4));
                y.testimony(state - 1, 3).is(slips);
                bars(y, state * 5 - 5, notes[0], notes[1], 0, notes[2], notes[3]);
            }
        });
        Sentences.of(THREE, "below slip it is a SLIP", x -> {
            Edges.singer(x, 1, 60, 9, "same same same same same same same");
            x.tell(1, "slip 0;").is(1);
            x.call(0, 0, 30).is(0);
            x.tell(1, "slip 1000;").is(1);
            x.call(0, 0, 30).is(8);
            x.look(5).is(Edges.stateBehind(0, 16));
        });
    }

    private static void flatNoteOne() {
        Sentences.of(THREE, "NOTE 1 becomes 0, which counts as a rest in DUET, BEST, CANON).", x -> {
            Edges.singer(x, 1, 60, 9, "up 1 down 1 up 11");
            x.set(0, 0, 4095);
            x.call(0, 0, 0).is(0);
            x.tell(1, "slip 1000;").is(1);
            x.call(0, 0, 0).is(4);
            x.call(0, 0, 1).is(4);
            bars(x, 0, 1, 2, 1, 12, 0, 1, 0, 11, 1, 2, 1, 12);
            x.duet(0, 1).is(2);
            x.duet(1, 0).is(2);
            x.duet(1, 1).is(2);
            x.duet(0, 2).is(4);
            x.canon(1, 1).is(0);
            x.canon(1, 2).is(1);
            x.canon(1, 3).is(0);
            x.canon(2, 1).is(3);
            x.best(0, 0, 1, 1).is(2);
            x.best(0, 0, 2, 1).is(4);
        });
    }

    private static void nerveBehindACall() {
        Sentences.of(THREE, "Behind it NERVE is shake less (0 at least; asked behind the singing, with sung as it"
            + " is ahead of it).", x -> {
            Edges.singer(x, 1, 60, 9, "");
            x.tell(1, "slip 0; shake 20;").is(2);
            int[][] nerves = {{0, 0}, {1, 0}, {19, 0}, {20, 0}, {21, 1}, {99, 79}};
            for (int[] nerve : nerves) {
                x.set(3, 0, nerve[0]);
                x.call(0, 0, 20).is(0);
                x.of(0, 3).is(nerve[1]);
            }
            LoggedBench y = new LoggedBench();
            Edges.singer(y, 1, 60, 9, "");
            y.tell(1, "slip 0; shake sung * 10;").is(2);
            int[] due = {50, 40, 20, 0, 0};
            for (int nerve : due) {
                y.call(0, 0, 20).is(0);
                y.of(0, 3).is(nerve);
            }
            LoggedBench z = new LoggedBench();
            Edges.singer(z, 1, 60, 9, "same");
            z.tell(1, "slip 1000 when nerve = 50; slip 0; shake nerve / 2;").is(3);
            z.call(0, 0, 20).is(2);
            z.of(0, 3).is(25);
            z.call(0, 0, 20).is(0);
            z.of(0, 3).is(13);
        });
    }

    private static void theTestimony() {
        Sentences.of(THREE, "The TESTIMONY: WITNESS, FACT, VALUE, SLIPS, its first BAR, how many; not"
            + " STRUCK.", x -> {
            for (int w = 0; w < 8; w++) {
                x.witness(1, 60, 1);
            }
            x.claim(0, 0, 0);
            x.claim(7, 5, 3);
            x.tell(0, "motive 0 0;motive 5 3 same same;").is(2);
            x.tell(1, "slip 1000 when fact = 5 and bar < 2; slip 0; weight 9;").is(3);
            x.call(0, 0, 20).is(0);
            x.call(7, 5, 20).is(2);
            x.call(0, 0, 20).is(0);
            int[][] due = {{0, 0, 0, 0, 0, 1, 0, 9}, {7, 5, 3, 2, 1, 5, 0, 9}, {0, 0, 0, 0, 6, 1, 0, 9}};
            for (int i = 0; i < 3; i++) {
                for (int what = 0; what < 8; what++) {
                    x.testimony(i, what).is(due[i][what]);
                }
            }
            x.claim(7, 5, 0);
            x.testimony(1, 2).is(3);
        });
    }

    private static void toCross() {
        Sentences.of(THREE, "To CROSS: NERVE is shake less and 10 less (0 at least).", x -> {
            x.witness(1, 60, 9);
            x.witness(1, 60, 9);
            int[][] nerves = {{0, 0}, {9, 0}, {10, 0}, {14, 0}, {15, 0}, {16, 1}, {99, 84}};
            for (int[] nerve : nerves) {
                x.set(3, 0, nerve[0]);
                x.cross(0).is(nerve[1]);
                x.of(0, 3).is(nerve[1]);
                x.of(1, 3).is(50);
            }
            x.tell(1, "shake 0 - 20;").is(1);
            x.cross(0).is(74);
            x.tell(1, "shake 64;").is(1);
            x.cross(0).is(0);
            x.set(3, 0, 99);
            x.tell(1, "shake 88;").is(1);
            x.cross(0).is(1);
            x.set(3, 0, 99);
            x.tell(1, "shake 99;").is(1);
            x.cross(0).is(0);
            x.look(5).is(0);
        });
    }

    private static void toStrike() {
        Sentences.of(THREE, "To STRIKE a TESTIMONY that is not.", x -> {
            Edges.singer(x, 1, 60, 9, "");
            x.strike(0).isRefused();
            x.call(0, 0, 20).is(0);
            x.call(0, 0, 20).is(0);
            x.strike(-1).isRefused();
            x.strike(2).isRefused();
            x.strike(1).is(true);
            x.strike(1).isRefused();
            x.testimony(0, 6).is(0);
            x.testimony(1, 6).is(1);
            x.undo().is(true);
            x.testimony(1, 6).is(0);
            x.strike(1).is(true);
            x.strike(0).is(true);
            x.strike(0).isRefused();
        });
    }

    private static void dayOfRest() {
        Sentences.of(THREE, "A DAY of rest: NERVE of each is 7 more (99 at most)", x -> {
            int[][] nerves = {{0, 7}, {50, 57}, {91, 98}, {92, 99}, {93, 99}, {98, 99}, {99, 99}};
            for (int w = 0; w < nerves.length; w++) {
                x.witness(1, 60, 9);
                x.set(3, w, nerves[w][0]);
            }
            x.days(1);
            for (int w = 0; w < nerves.length; w++) {
                x.of(w, 3).is(nerves[w][1]);
            }
            x.days(2);
            x.of(0, 3).is(21);
            x.of(1, 3).is(71);
        });
        Sentences.of(THREE, "WITNESS by WITNESS a DRAW of 10: 0: HOARSE, else not; DAY is one more.", x -> {
            for (int w = 0; w < 8; w++) {
                x.witness(1, 60, 9);
            }
            for (int state = 1; state <= 20; state++) {
                x.set(4, state % 8, 1);
                x.state(state);
                int hoarse = 0;
                for (int w = 0; w < 8; w++) {
                    hoarse += Edges.draw(state, w, 10) == 0 ? 1 : 0;
                }
                x.days(1).is(hoarse);
                for (int w = 0; w < 8; w++) {
                    x.of(w, 4).is(Edges.draw(state, w, 10) == 0);
                }
                x.look(5).is(Edges.stateBehind(state, 8));
                x.look(1).is(state);
            }
            LoggedBench y = new LoggedBench();
            y.days(1).is(0);
            y.look(5).is(0);
            y.look(1).is(1);
        });
    }

    private static void trialGoesOn() {
        Sentences.of(THREE, "A TRIAL goes deed by deed: what can be done; else it is left out.", x -> {
            Edges.singer(x, 10, 30, 9, "");
            x.tell(2, "call 0 on 0 in 8 call 0 on 0 in 9 call 0 on 0 in 29 call 0 on 0 in 30 call 0 on 1 in 9"
                + " cross 0")
                .is(6);
            x.trial().is(3);
            x.look(2).is(2);
            bars(x, 0, 10, 30, NONE);
            x.of(0, 3).is(40);
            x.tell(2, "again 9(call 0 on 0 in 20 call 0 on 0 in 21)rest").is(19);
            x.trial().is(19);
            x.look(2).is(20);
            x.bar(19).is(22);
            x.trial().is(1);
            x.look(2).is(20);
            x.look(1).is(2);
            x.undo().is(true);
            x.undo().is(true);
            x.call(0, 0, 20).is(0);
            x.trial().is(18);
            x.look(2).is(20);
            x.bar(19).is(21);
        });
        Sentences.of(THREE, "what can be done; else it is left out.", x -> {
            fill(x);
            x.claim(1, 0, 1);
            x.tell(2, "call 0 on 0 in 7 call 1 on 0 in 8 call 1 on 0 in 9 call 2 on 0 in 9").is(4);
            x.trial().is(1);
            x.look(3).is(198);
            bars(x, 195, 9, 9, 9, NONE);
            x.trial().is(0);
            x.look(10).is(2);
            x.look(3).is(198);
        });
    }

    private static void theBook() {
        Sentences.of(THREE, "THE BOOK (120 lines; no more then)", x -> {
            Edges.singer(x, 1, 60, 9, "");
            x.set(3, 0, 99);
            for (int i = 0; i < 3; i++) {
                x.days(30);
            }
            x.days(28);
            x.look(4).is(118);
            x.call(0, 0, 20).is(0);
            x.look(4).is(119);
            x.cross(0).is(89);
            x.look(4).is(120);
            x.book(119, 1).is(1);
            x.book(120, 1).is(NONE - 1);
            x.cross(0).is(79);
            x.call(0, 0, 30).is(0);
            x.strike(0).is(true);
            x.days(1);
            x.look(4).is(120);
            x.book(119, 1).is(1);
            x.book(120, 1).is(NONE - 1);
            x.look(1).is(119);
            x.look(2).is(2);
            x.testimony(0, 6).is(1);
            for (int i = 0; i < 4; i++) {
                x.undo().is(true);
                x.look(4).is(120);
            }
            x.undo().is(true);
            x.look(4).is(119);
            x.book(119, 1).is(NONE - 1);
            x.book(118, 1).is(0);
        });
        Sentences.of(THREE, "120 lines", x -> {
            x.witness(1, 60, 9);
            x.tell(2, "again 6(again 9(cross 0)) again 5(rest)").is(59);
            x.trial().is(59);
            x.trial().is(59);
            x.look(4).is(118);
            x.trial().is(59);
            x.look(4).is(120);
            x.look(1).is(15);
            x.book(117, 1).is(3);
            x.book(118, 1).is(1);
            x.book(119, 1).is(1);
            x.undo().is(true);
            x.look(4).is(118);
            x.book(118, 1).is(NONE - 1);
        });
    }

    private static void bookOfEachDeed() {
        Sentences.of(THREE, "DAY, what (0 called, 1 crossed, 2 struck, 3 rested), the WITNESS (2: the TESTIMONY; 3:"
            + " NONE), the FACT (0; else NONE), SLIPS (0; else 0).", x -> {
            for (int w = 0; w < 3; w++) {
                x.witness(1, 60, 9);
            }
            x.claim(2, 5, 3);
            x.tell(0, "motive 5 3 same;").is(1);
            x.tell(1, "slip 1000;").is(1);
            x.days(2);
            x.call(2, 5, 20).is(2);
            x.cross(1).is(50 + 14 - 15);
            x.days(1);
            x.call(2, 5, 20).is(2);
            x.strike(1).is(true);
            x.tell(2, "rest call 2 on 5 in 3 cross 2").is(3);
            x.trial().is(3);
            int[][] due = {{0, 3, NONE, NONE, 0}, {1, 3, NONE, NONE, 0}, {2, 0, 2, 5, 2}, {2, 1, 1, NONE, 0},
                {2, 3, NONE, NONE, 0}, {3, 0, 2, 5, 2}, {3, 2, 1, NONE, 0}, {3, 3, NONE, NONE, 0},
                {4, 0, 2, 5, 2}, {4, 1, 2, NONE, 0}};
            for (int i = 0; i < due.length; i++) {
                for (int what = 0; what < 5; what++) {
                    x.book(i, what).is(due[i][what]);
                }
            }
            x.look(4).is(due.length);
            x.call(2, 5, 60).isRefused(NONE);
            x.cross(3).isRefused(NONE);
            x.strike(1).isRefused();
            x.days(31).isRefused(NONE);
            x.look(4).is(due.length);
        });
    }
}
