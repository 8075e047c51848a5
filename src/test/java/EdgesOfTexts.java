import java.io.IOException;

/** The boundaries of part 2 of "Terms": the three texts, their tokens, their faults, and what the law tells. */
public final class EdgesOfTexts {
    private static final int NONE = Edges.NONE;
    private static final String TWO = "Terms 2";
    private static final String SIXTEEN_LINES = Edges.repeated("slip 1;", 16);

    private EdgesOfTexts() {
    }

    public static void main(String[] args) throws IOException {
        Sentences.open(args[0]);
        texts();
        motives();
        motiveCounts();
        lawLines();
        lawConditions();
        lawSums();
        trials();
        tokens();
        signs();
        numbers();
        faultsByPlace();
        faultOne();
        faultTwo();
        faultThree();
        faultFour();
        lawTells();
        longLaws();
        lawHolds();
        lawWords();
        lawWordsOfSinging();
        Sentences.close("EdgesOfTexts", TWO);
    }

    /** A text that is refused, on a bench on which texts stand already; its place is told by a ^ ahead of it. */
    private static void faulty(int k, String marked, int fault) {
        LoggedBench x = new LoggedBench();
        Edges.fullBench(x);
        x.end(0).is(true);
        int place = marked.indexOf('^');
        x.faulty(k, marked.substring(0, place) + marked.substring(place + 1), fault, place);
    }

    private static void good(int k, String text, int count) {
        LoggedBench x = new LoggedBench();
        Edges.fullBench(x);
        x.end(0).is(true);
        x.good(k, text, count);
        x.end(1).is(false);
    }

    /** What a sum of the law is, read off a shake, which is 0 .. 99. */
    private static void shakes(LoggedBench x, String sum, int want) {
        x.tell(1, "shake " + sum + ";").is(1);
        x.of(0, 6).is(want);
    }

    private static void when(LoggedBench x, String condition, boolean so) {
        x.tell(1, "shake 31 when " + condition + ";").is(1);
        x.of(0, 6).is(so ? 31 : 5);
    }

    private static void texts() {
        Sentences.of(TWO, "TEXTS (empty at first).", x -> {
            for (int k = 0; k < 3; k++) {
                x.look(6 + k).is(0);
            }
            for (int which = 0; which < 24; which++) {
                x.motive(which, 0).is(0);
            }
            x.trial().is(0);
            x.witness(1, 60, 1);
            x.of(0, 6).is(5);
            for (int k = 0; k < 3; k++) {
                x.good(k, "", 0);
                x.good(k, " \n ", 0);
            }
        });
    }

    private static void motives() {
        Sentences.of(TWO, "0 MOTIVES = {motive FACT VALUE {(up | down) N | same} ;}", x -> {
            x.good(0, "motive 0 0;", 1);
            x.motive(0, 0).is(1);
            x.good(0, "motive 5 3 up 1 down 2 same;", 1);
            x.motive(0, 0).is(0);
            x.motive(23, 0).is(4);
            x.motive(23, 1).is(1);
            x.motive(23, 2).is(-2);
            x.motive(23, 3).is(0);
            x.good(0, "motive 5 3;motive 0 0 same;", 2);
            faulty(0, "^0 0;", 1);
            faulty(0, "^;", 1);
            faulty(0, "motive ^;", 1);
            faulty(0, "motive ^up 1;", 1);
            faulty(0, "motive 0 ^;", 1);
            faulty(0, "motive 0 0^", 1);
            faulty(0, "motive 0 0 ^1;", 1);
            faulty(0, "motive 0 0 up ^;", 1);
            faulty(0, "motive 0 0 up ^up 1;", 1);
            faulty(0, "motive 0 0 same ^1;", 1);
            faulty(0, "motive 0 0 same ^motive 0 1;", 1);
            faulty(0, "motive 0 0;^;", 1);
            faulty(0, "motive 0 0 up ^-1;", 1);
        });
        Sentences.of(TWO, "(N 1 .. 24;", x -> {
            for (String way : new String[] {"up", "down"}) {
                x.good(0, "motive 0 0 " + way + " 1 " + way + " 24;", 1);
                x.motive(0, 1).is(way.equals("up") ? 1 : -1);
                x.motive(0, 2).is(way.equals("up") ? 24 : -24);
                faulty(0, "motive 0 0 " + way + " ^0;", 2);
                faulty(0, "motive 0 0 " + way + " ^25;", 2);
                faulty(0, "motive 0 0 " + way + " ^9999;", 2);
            }
        });
        Sentences.of(TWO, "each FACT and VALUE once;", x -> {
            x.good(0, "motive 1 2;motive 2 1;motive 1 1;motive 2 2;", 4);
            faulty(0, "motive 1 2;motive 2 1;motive 1 ^2;", 2);
            faulty(0, "motive 0 0 same;motive 0 ^0;", 2);
            faulty(0, "motive 5 3;motive 5 ^3;", 2);
            faulty(0, "motive 5 3;motive 05 ^003 up 0;", 2);
            x.good(0, "motive 1 2 up 7;", 1);
            x.good(0, "motive 1 2 up 8;", 1);
            x.motive(6, 1).is(8);
        });
        Sentences.of(TWO, "A MOTIVE without a line has none.", x -> {
            Edges.singer(x, 1, 60, 9, "up 3");
            x.motive(0, 0).is(2);
            x.motive(1, 0).is(0);
            x.motive(1, 1).is(NONE - 99);
            x.claim(0, 0, 1).is(true);
            x.keys(0, 0, 0).is(NONE);
            x.call(0, 0, 20).isRefused(NONE);
            x.claim(0, 0, 0).is(true);
            x.keys(0, 0, 0).is(57);
            x.good(0, "motive 0 1 up 3;", 1);
            x.motive(0, 0).is(0);
            x.call(0, 0, 20).isRefused(NONE);
        });
    }

    private static void motiveCounts() {
        Sentences.of(TWO, "7 of these at most;", x -> {
            x.good(0, "motive 0 0 up 1 up 1 up 1 up 1 up 1 up 1;", 1);
            x.motive(0, 0).is(7);
            x.good(0, "motive 0 0 up 1 down 2 up 3 same up 5 down 6 up 7;", 1);
            x.motive(0, 0).is(8);
            x.motive(0, 7).is(7);
            x.motive(0, 8).is(NONE - 99);
            x.good(0, "motive 0 0" + Edges.repeated(" same", 7) + ";motive 0 1" + Edges.repeated(" same",
                7) + ";", 2);
            faulty(0, "motive 0 0" + Edges.repeated(" same", 7) + " ^same;", 3);
            faulty(0, "motive 0 0" + Edges.repeated(" up 1", 7) + " ^up 1;", 3);
            faulty(0, "motive 0 0" + Edges.repeated(" up 1", 7) + " ^down 1;", 3);
            faulty(0, "motive 0 0;motive 0 1" + Edges.repeated(" up 1", 7) + " ^up 0;", 3);
        });
        Sentences.of(TWO, "16 lines at most.)", x -> {
            x.good(0, Edges.motives(15), 15);
            x.good(0, Edges.motives(16), 16);
            x.motive(15, 0).is(1);
            x.motive(16, 0).is(0);
            faulty(0, Edges.motives(16) + "^motive 4 0;", 3);
            faulty(0, Edges.motives(16) + " ^motive", 3);
            x.look(6).is(16);
        });
    }

    private static void lawLines() {
        Sentences.of(TWO, "1 THE LAW = {(slip | shake | weight) E [when B] ;}.", x -> {
            x.good(1, "slip 1;", 1);
            x.good(1, "shake 1 when 1=1;", 1);
            x.good(1, "weight 1;slip 1 when 1=1;shake 1;", 3);
            faulty(1, "^;", 1);
            faulty(1, "^1;", 1);
            faulty(1, "^nerve 1;", 1);
            faulty(1, "^when 1=1;", 1);
            faulty(1, "slip ^;", 1);
            faulty(1, "slip ^when 1=1;", 1);
            faulty(1, "slip 1^", 1);
            faulty(1, "slip 1 ^slip 2;", 1);
            faulty(1, "slip 1 when ^;", 1);
            faulty(1, "slip 1 when 1=1 ^when 1=1;", 1);
            faulty(1, "slip 1 when 1=1^", 1);
            faulty(1, "slip 1;^;", 1);
        });
    }

    private static void lawConditions() {
        Sentences.of(TWO, "B = A {or A}.", x -> {
            x.witness(1, 60, 1);
            when(x, "1=2 or 1=2", false);
            when(x, "1=2 or 1=1", true);
            when(x, "1=1 or 1=2", true);
            when(x, "1=2 or 1=2 or 1=2 or 1=1", true);
            faulty(1, "slip 1 when 1=1 or ^;", 1);
            faulty(1, "slip 1 when ^or 1=1;", 1);
            faulty(1, "slip 1 when 1=1 or ^or 1=1;", 1);
        });
        Sentences.of(TWO, "A = C {and C}.", x -> {
            x.witness(1, 60, 1);
            when(x, "1=1 and 1=1", true);
            when(x, "1=1 and 1=2", false);
            when(x, "1=2 and 1=1", false);
            when(x, "1=1 and 1=1 and 1=1 and 1=2", false);
            when(x, "1=1 or 1=1 and 1=2", true);
            when(x, "1=2 and 1=1 or 1=1", true);
            when(x, "1=2 and 1=2 or 1=2", false);
            when(x, "1=2 or 1=1 and 1=1", true);
            faulty(1, "slip 1 when 1=1 and ^;", 1);
            faulty(1, "slip 1 when 1=1 and ^or 1=1;", 1);
        });
        Sentences.of(TWO, "C = E (< | = | >) E | not C | ( B ).", x -> {
            x.witness(1, 60, 1);
            for (int far = -1; far <= 1; far++) {
                when(x, (7 + far) + " < 7", far < 0);
                when(x, (7 + far) + " = 7", far == 0);
                when(x, (7 + far) + " > 7", far > 0);
                when(x, "not " + (7 + far) + " = 7", far != 0);
                when(x, "not not " + (7 + far) + " = 7", far == 0);
                when(x, "(" + (7 + far) + " = 7)", far == 0);
                when(x, "not (" + (7 + far) + " = 7)", far != 0);
                when(x, "0 - " + (7 + far) + " < 0 - 7", far > 0);
            }
            String[] so = {"1<2", "2=2", "2>1", "not 2<1", "not 2=1", "not 1>2", "(1<2)", "(2=2)", "(2>1)"};
            String[] notSo = {"2<2", "2=1", "1>1", "not 1<2", "not 2=2", "not 2>1", "(2<2)", "(2=1)", "(1>1)"};
            for (int i = 0; i < so.length; i++) {
                when(x, so[i] + " and " + so[(i + 2) % so.length], true);
                when(x, notSo[i] + " or " + so[i], true);
                when(x, so[i] + " and " + notSo[i], false);
                when(x, notSo[i] + " or " + notSo[(i + 2) % so.length], false);
            }
            when(x, "not 1=2 and 1=2", false);
            when(x, "not (1=2 and 1=2)", true);
            when(x, "not 1=1 or 1=1", true);
            x = new LoggedBench();
            x.witness(1, 60, 1);
            when(x, "(1=1 or 1=1) and 1=2", false);
            when(x, "1=1 and (1=2 or 1=1) and 1=1", true);
            when(x, "1=2 or (1=1 and (1=2 or 1=1))", true);
            when(x, "1=2 and (1=1 or 1=1) or 1=2", false);
            faulty(1, "slip 1 when 1^;", 1);
            faulty(1, "slip 1 when 1=^;", 1);
            faulty(1, "slip 1 when 1=1^=1;", 1);
            faulty(1, "slip 1 when 1=^=1;", 1);
            faulty(1, "slip 1 when not ^;", 1);
            faulty(1, "slip 1 when (^);", 1);
            faulty(1, "slip 1 when (1=1^;", 1);
            faulty(1, "slip 1 when 1=1^);", 1);
            faulty(1, "slip 1 when (1^)=1;", 1);
        });
    }

    private static void lawSums() {
        Sentences.of(TWO, "E = T {(+ | -) T}.", x -> {
            x.witness(1, 60, 1);
            shakes(x, "9 - 3 - 2", 4);
            shakes(x, "9 - 3 + 2", 8);
            shakes(x, "1" + Edges.repeated("+1", 90), 91);
            faulty(1, "slip ^-1;", 1);
            faulty(1, "slip 1+^;", 1);
            faulty(1, "slip 1-^-1;", 1);
            faulty(1, "slip ^(1);", 1);
        });
        Sentences.of(TWO, "T = U {* U | / NUMBER}.", x -> {
            x.witness(1, 60, 1);
            shakes(x, "1 + 2 * 3", 7);
            shakes(x, "9 / 2 * 2", 8);
            shakes(x, "9 * 2 / 4", 4);
            shakes(x, "99 / 9999", 0);
            shakes(x, "99 / 1", 99);
            shakes(x, "3 + 9 / 1", 12);
            shakes(x, "3 + 9 / 2", 7);
            shakes(x, "3 * 9 / 1 - 9 / 1 / 3", 24);
            faulty(1, "slip 1*^;", 1);
            faulty(1, "slip 1/^;", 1);
            faulty(1, "slip 1/^nerve;", 1);
            faulty(1, "slip 1*^/2;", 1);
        });
        Sentences.of(TWO, "U = NUMBER | nerve | hoarse | breath | bar | note | room | fact | value | day | sung |"
            + " slips.", x -> {
            String words = "nerve hoarse breath bar note room fact value day sung slips";
            for (String word : words.split(" ")) {
                good(1, "slip " + word + ";", 1);
                good(1, "weight 1 when " + word + " = " + word + ";", 1);
                faulty(1, "slip ^" + word + "s;", 1);
            }
            good(1, "slip 0;", 1);
            good(1, "slip 9999;", 1);
            for (String word : "slip shake weight when or and not low high".split(" ")) {
                faulty(1, "slip ^" + word + ";", 1);
            }
        });
        Sentences.of(TWO, "Ints, which wrap; / goes towards 0.", x -> {
            x.witness(1, 60, 1);
            String most = "9999*9999*21+9999*4790+8416";
            when(x, most + " > 0", true);
            when(x, most + " + 1 < 0", true);
            when(x, most + " + 1 > 0", false);
            when(x, most + " + 2 > " + most, false);
            String least = "0-9999*9999*21-9999*4790-8416-1";
            when(x, least + " < 0", true);
            when(x, least + " - 1 > 0", true);
            when(x, "9999*9999*21 > 0", true);
            when(x, "9999*9999*22 > 0", false);
            when(x, "9999*9999*22/1000 = 0-9999*209-5616", true);
            when(x, "9999*9999*22/9999 = 0-9999*20-9581", true);
            shakes(x, "7/2", 3);
            shakes(x, "9-7/2", 6);
        });
    }

    private static void trials() {
        Sentences.of(TWO, "2 A TRIAL = {call WITNESS on FACT in N | cross WITNESS | rest | again N ( {..}"
            + " )}", x -> {
            good(2, "call 0 on 0 in 0", 1);
            good(2, "call 2 on 5 in 59 cross 2 rest again 1()", 3);
            good(2, "again 2(again 2(rest cross 0)call 0 on 0 in 0)", 10);
            faulty(2, "call ^on 0 in 0", 1);
            faulty(2, "call 0 ^0 in 0", 1);
            faulty(2, "call 0 on ^in 0", 1);
            faulty(2, "call 0 on 0 ^on 0", 1);
            faulty(2, "call 0 on 0 in ^rest", 1);
            faulty(2, "call 0 on 0 in^", 1);
            faulty(2, "cross ^rest", 1);
            faulty(2, "rest ^1", 1);
            faulty(2, "again ^(rest)", 1);
            faulty(2, "again 2 ^rest", 1);
            faulty(2, "again 2(rest^", 1);
            faulty(2, "again 2(rest)^)", 1);
            faulty(2, "^(rest)", 1);
            faulty(2, "^)", 1);
        });
        Sentences.of(TWO, "(in N 0 .. 59; again 1 .. 9; no ; between.)", x -> {
            good(2, "call 0 on 0 in 0 call 0 on 0 in 59", 2);
            faulty(2, "call 0 on 0 in ^60", 2);
            faulty(2, "call 0 on 0 in ^9999", 2);
            faulty(2, "call 0 on 0 in ^-1", 1);
            good(2, "again 1(rest)", 1);
            good(2, "again 9(rest)", 9);
            faulty(2, "again ^0(rest)", 2);
            faulty(2, "again ^10(rest)", 2);
            faulty(2, "rest^;", 1);
            faulty(2, "rest^;rest", 1);
            faulty(2, "again 2(rest^;)", 1);
        });
    }

    private static void tokens() {
        Sentences.of(TWO, "letters as many as stand together are KEYWORDS (those told here for that text) or"
            + " none", x -> {
            good(0, "motive0 0up1same;", 1);
            good(1, "slip1when not1=1and not(1=1);", 1);
            good(2, "rest\nrest again2(rest)", 4);
            faulty(0, "^motives 0 0;", 1);
            faulty(0, "^motiv 0 0;", 1);
            faulty(0, "^Motive 0 0;", 1);
            faulty(0, "^MOTIVE 0 0;", 1);
            faulty(0, "^motivemotive 0 0;", 1);
            faulty(0, "motive 0 0 ^samesame;", 1);
            faulty(0, "motive 0 0 ^upX 1;", 1);
            faulty(0, "^m otive 0 0;", 1);
            faulty(2, "^restrest", 1);
            faulty(2, "rest ^a", 1);
            faulty(2, "rest ^z", 1);
            faulty(2, "rest ^A", 1);
            faulty(2, "rest ^Z", 1);
            faulty(0, "^slip 1;", 1);
            faulty(0, "^rest", 1);
            faulty(1, "^motive 0 0;", 1);
            faulty(1, "slip ^same;", 1);
            faulty(1, "slip 1 ^in 1;", 1);
            faulty(2, "^motive 0 0;", 1);
            faulty(2, "^slip 1;", 1);
            faulty(2, "call 0 ^when 0 in 0", 1);
        });
        Sentences.of(TWO, "digits as many as stand together NUMBERS of 1 to 4 digits or none", x -> {
            good(0, "motive 0 0;", 1);
            good(0, "motive 0005 0003 up 0024;", 1);
            faulty(0, "motive ^00005 0;", 1);
            faulty(0, "motive 0 ^00003;", 1);
            faulty(0, "motive 0 0 up ^00001;", 1);
            faulty(0, "motive 00^;", 1);
            faulty(0, "motive 0 0 up 1 ^2;", 1);
            good(1, "slip 9999 / 9999;", 1);
            faulty(1, "slip ^10000;", 1);
            faulty(1, "slip ^09999;", 1);
            faulty(1, "slip 1 / ^00001;", 1);
            faulty(1, "slip ^12345678901234567890;", 1);
            good(2, "cross 0000", 1);
            faulty(2, "cross ^00000", 1);
            x.witness(1, 60, 1);
            shakes(x, "9999 - 9990", 9);
            shakes(x, "0009", 9);
        });
    }

    /** Each of the 256 bytes behind a step that is whole: only blanks and the end of the line can stand there. */
    private static void signs() {
        Sentences.of(TWO, "Blanks (32, 10) between.", x -> {
            good(0, "\n motive\n0 0\n\n up 1 ; \n", 1);
            for (int sign = 0; sign < 256; sign++) {
                LoggedBench y = new LoggedBench();
                boolean blank = sign == 32 || sign == 10;
                y.tell(0, "motive 0 0 " + (char) sign + ";").is(blank ? 1 : NONE);
                y.fault(0).is(blank ? 0 : 1);
                y.fault(1).is(blank ? NONE : sign == ';' ? 12 : 11);
            }
        });
        Sentences.of(TWO, "NUMBERS of 1 to 4 digits or none; ; + - * / ( ) < = > . Blanks (32, 10) between.", x -> {
            for (int sign = 0; sign < 256; sign++) {
                boolean fact = sign >= '0' && sign <= '5';
                boolean digit = sign >= '0' && sign <= '9';
                boolean blank = sign == 32 || sign == 10;
                LoggedBench y = new LoggedBench();
                y.tell(0, "motive " + (char) sign + " 0;").is(fact ? 1 : NONE);
                y.fault(0).is(fact ? 0 : digit ? 2 : 1);
                y.fault(1).is(fact ? NONE : blank ? 10 : 7);
                y.end(0);
                y.tell(2, "" + (char) sign).is(blank ? 0 : NONE);
                y.fault(1).is(blank ? NONE : 0);
            }
            good(0, "motive 0 0;", 1);
        });
        Sentences.of(TWO, "; + - * / ( ) < = > .", x -> {
            good(1, "slip 1+1-1*1/1when(1<1)or 1=1or 1>1;", 1);
            for (int sign = 0; sign < 256; sign++) {
                boolean comparison = sign == '<' || sign == '=' || sign == '>';
                boolean sum = sign == '+' || sign == '-' || sign == '*' || sign == '/';
                boolean longer = sign >= '0' && sign <= '9';
                LoggedBench y = new LoggedBench();
                y.tell(1, "slip 1 when 1" + (char) sign + "1;").is(comparison ? 1 : NONE);
                y.fault(0).is(comparison ? 0 : 1);
                y.fault(1).is(comparison ? NONE : sum || longer ? 15 : sign == 32 || sign == 10 ? 14 : 13);
            }
        });
    }

    private static void numbers() {
        Sentences.of(TWO, "motive FACT VALUE", x -> {
            good(0, "motive 0 0;motive 0 3;motive 5 0;motive 5 3;", 4);
            faulty(0, "motive ^6 0;", 2);
            faulty(0, "motive ^9999 0;", 2);
            faulty(0, "motive 0 ^4;", 2);
            faulty(0, "motive 5 ^9999;", 2);
        });
        Sentences.of(TWO, "call WITNESS on FACT in N", x -> {
            good(2, "call 0 on 0 in 0", 1);
            good(2, "call 2 on 5 in 59", 1);
            faulty(2, "call ^3 on 0 in 0", 2);
            faulty(2, "call 0 on ^6 in 0", 2);
            faulty(2, "call 0 on 0 in ^60", 2);
        });
    }

    private static void faultsByPlace() {
        Sentences.of(TWO, "FAULTS, the first by its place, at one place the least", x -> {
            faulty(0, "motive ^6 0 up 0; up", 2);
            faulty(0, "motive 0 0 up ^25 ?", 2);
            faulty(0, "motive 0 0" + Edges.repeated(" same", 7) + " ^same; motive 0 0", 3);
            faulty(0, Edges.motives(16) + "^motive 9 9", 3);
            faulty(1, "slip 1/^0 ?", 2);
            faulty(1, "slip 1 when (((((((( ^(1/0", 3);
            faulty(1, "slip 1 when 1/^0 = ((((((((( 1", 2);
            faulty(2, "cross ^9 )", 2);
            faulty(2, "again ^0 again 1(again 1(again 1(again 1(", 2);
            faulty(2, Edges.repeated("again 9(", 4) + "rest ^", 1);
            faulty(2, Edges.repeated("rest ", 61) + "^1 rest", 1);
        });
    }

    private static void faultOne() {
        Sentences.of(TWO, "1 what can't stand there (the end: the text's length).", x -> {
            faulty(0, "motive^", 1);
            faulty(0, "motive \n ^", 1);
            faulty(1, "slip^", 1);
            faulty(1, "slip 1 ^", 1);
            faulty(1, "slip 1 when 1=1 and   ^", 1);
            faulty(2, "call^", 1);
            faulty(2, "again 1( ^", 1);
            faulty(0, Edges.repeated(" ", 394) + "motive^", 1);
            faulty(1, Edges.repeated(" ", 399) + "^1", 1);
            faulty(2, "^" + Edges.repeated(";", 400), 1);
        });
    }

    private static void faultTwo() {
        Sentences.of(TWO, "2 (at the NUMBER) a part by 0;", x -> {
            good(1, "slip 0/1;", 1);
            faulty(1, "slip 1/^0;", 2);
            faulty(1, "slip 1/^0000;", 2);
            faulty(1, "slip 1*2/3/^0;", 2);
            faulty(1, "slip 1 when nerve / ^0 = 1;", 2);
        });
        Sentences.of(TWO, "one beyond its bounds;", x -> {
            faulty(0, "motive ^6 0;", 2);
            faulty(0, "motive 0 ^4;", 2);
            faulty(0, "motive 0 0 up ^0;", 2);
            faulty(0, "motive 0 0 up ^25;", 2);
            faulty(2, "call 0 on ^6 in 0", 2);
            faulty(2, "call 0 on 0 in ^60", 2);
            faulty(2, "again ^0()", 2);
            faulty(2, "again ^10()", 2);
        });
        Sentences.of(TWO, "a WITNESS that there is not;", x -> {
            x.faulty(2, "cross 0", 2, 6);
            x.faulty(2, "call 0 on 0 in 0", 2, 5);
            x.witness(1, 60, 1);
            x.good(2, "cross 0 call 0 on 0 in 0", 2);
            x.faulty(2, "cross 1", 2, 6);
            x.faulty(2, "call 1 on 0 in 0", 2, 5);
            for (int i = 1; i < 8; i++) {
                x.witness(1, 60, 1).is(i);
            }
            x.good(2, "cross 7", 1);
            x.faulty(2, "cross 8", 2, 6);
            x.faulty(2, "call 9999 on 0 in 0", 2, 5);
        });
        Sentences.of(TWO, "a VALUE of a FACT told already.", x -> {
            faulty(0, "motive 0 0;motive 0 ^0;", 2);
            faulty(0, "motive 5 3 up 24;motive 5 2;motive 5 ^3 same;", 2);
            good(0, "motive 0 1;motive 1 0;", 2);
        });
    }

    private static void faultThree() {
        Sentences.of(TWO, "3 (at its KEYWORD) the 17th line of THE LAW, of MOTIVES, the 8th step of a"
            + " MOTIVE;", x -> {
            good(1, SIXTEEN_LINES, 16);
            faulty(1, SIXTEEN_LINES + "^slip 1;", 3);
            faulty(1, SIXTEEN_LINES + " ^shake 1;", 3);
            faulty(1, SIXTEEN_LINES + "\n^weight", 3);
            faulty(1, SIXTEEN_LINES + "^when", 1);
            faulty(1, SIXTEEN_LINES + "^;", 1);
            good(0, Edges.motives(16), 16);
            faulty(0, Edges.motives(16) + "^motive 5 3;", 3);
            faulty(0, Edges.motives(16) + "^motive 0 0;", 3);
            faulty(0, Edges.motives(16) + "^up 1;", 1);
            good(0, "motive 0 0" + Edges.repeated(" down 1", 7) + ";", 1);
            faulty(0, "motive 0 0" + Edges.repeated(" down 1", 7) + "^down 1;", 3);
            faulty(0, "motive 0 0" + Edges.repeated(" down 1", 7) + " ^1;", 1);
        });
        Sentences.of(TWO, "(at it) the 9th ( or not that is open;", x -> {
            String begin = "slip 1 when ";
            good(1, begin + Edges.repeated("(", 8) + "1=1" + Edges.repeated(")", 8) + ";", 1);
            faulty(1, begin + Edges.repeated("(", 8) + "^(1=1" + Edges.repeated(")", 9) + ";", 3);
            good(1, begin + Edges.repeated("not ", 8) + "1=1;", 1);
            faulty(1, begin + Edges.repeated("not ", 8) + "^not 1=1;", 3);
            good(1, begin + Edges.repeated("not(", 4) + "1=1" + Edges.repeated(")", 4) + ";", 1);
            faulty(1, begin + Edges.repeated("not(", 4) + "^not 1=1" + Edges.repeated(")", 4) + ";", 3);
            faulty(1, begin + Edges.repeated("not(", 4) + "^(1=1)" + Edges.repeated(")", 4) + ";", 3);
            good(1, begin + "1=1" + Edges.repeated(" or not 1=1", 9) + ";", 1);
            good(1, begin + "1=1" + Edges.repeated(" and (1=1)", 9) + ";", 1);
            good(1, begin + Edges.repeated("(", 7) + "(1=1) or not 1=1 or (1=1)" + Edges.repeated(")", 7) + ";", 1);
            faulty(1, begin + Edges.repeated("(", 7) + "(1=1) or not ^(1=1)" + Edges.repeated(")", 7) + ";", 3);
            faulty(1, begin + Edges.repeated("(", 8) + "1^(", 1);
            x.witness(1, 60, 1);
            when(x, Edges.repeated("not ", 7) + "1=2", true);
            when(x, Edges.repeated("not ", 8) + "1=2", false);
        });
        Sentences.of(TWO, "(at again) the 5th that is open.", x -> {
            good(2, Edges.repeated("again 1(", 4) + "rest" + Edges.repeated(")", 4), 1);
            faulty(2, Edges.repeated("again 1(", 4) + "^again 1(rest" + Edges.repeated(")", 5), 3);
            faulty(2, Edges.repeated("again 1(", 4) + "rest ^again 0", 3);
            good(2, Edges.repeated("again 1(rest)", 5), 5);
            good(2, Edges.repeated("again 1(", 3) + "again 2(rest)again 3(rest)" + Edges.repeated(")", 3), 5);
            faulty(2, Edges.repeated("again 1(", 4) + "cross ^again", 1);
        });
    }

    private static void faultFour() {
        Sentences.of(TWO, "4 (at the end) more than 60 deeds of A TRIAL (each but again as often as it is"
            + " told).", x -> {
            good(2, Edges.repeated("rest ", 59), 59);
            good(2, Edges.repeated("rest ", 60), 60);
            faulty(2, Edges.repeated("rest ", 61) + "^", 4);
            faulty(2, Edges.repeated("rest ", 60) + "rest^", 4);
            good(2, "again 6(again 5(rest cross 0))", 60);
            faulty(2, "again 6(again 5(rest cross 0))rest \n^", 4);
            good(2, "rest again 6(again 9(rest))again 5(rest)", 60);
            faulty(2, "again 9(again 9(again 9(again 9(rest))))^", 4);
            faulty(2, "again 7(again 9(rest)) again 1(^", 1);
            faulty(2, "again 7(again 9(rest)) ^;", 1);
            good(2, Edges.repeated("again 9(", 4) + Edges.repeated(")", 4) + Edges.repeated("rest ", 60), 60);
            Edges.fullBench(x);
            x.end(0);
            x.good(2, "again 5(again 6(cross 1 cross 0))", 60);
            x.trial().is(60);
            x.look(4).is(5 + 60);
            for (int i = 5; i < 65; i++) {
                x.book(i, 2).is(i % 2);
            }
            x.good(2, "again 2(again 2(call 1 on 0 in 7 call 1 on 5 in 8)rest cross 2)", 12);
            x.trial().is(12);
            int[] what = {0, 0, 0, 0, 3, 1, 0, 0, 0, 0, 3, 1};
            for (int i = 0; i < 12; i++) {
                x.book(65 + i, 1).is(what[i]);
                x.book(65 + i, 2).is(what[i] == 0 ? 1 : what[i] == 1 ? 2 : NONE);
                x.book(65 + i, 3).is(what[i] == 0 ? i % 2 * 5 : NONE);
            }
            x.testimony(9, 4).is(x.look(3).value() - 1);
            x.bar(x.look(3).value() - 1).is(9);
        });
    }

    private static void lawTells() {
        Sentences.of(TWO, "E of the first line with that word whose B is so, or that has none", x -> {
            x.witness(1, 60, 1);
            x.tell(1, "weight 1; shake 11; shake 12; shake 13 when 1=1;").is(4);
            x.of(0, 6).is(11);
            x.tell(1, "shake 11 when 1=2; shake 12 when 1=1; shake 13;").is(3);
            x.of(0, 6).is(12);
            x.tell(1, "shake 11 when 1=2; shake 12 when 2=1; shake 13;").is(3);
            x.of(0, 6).is(13);
            x.tell(1, Edges.repeated("shake 11 when 1=2;", 15) + "shake 12;").is(16);
            x.of(0, 6).is(12);
        });
        Sentences.of(TWO, "(none: slip: 99 less nerve, shake 5, weight: 4 less slips)", x -> {
            x.witness(1, 60, 9);
            x.claim(0, 0, 0);
            x.tell(0, "motive 0 0;").is(1);
            for (int nerve : new int[] {0, 1, 50, 98, 99}) {
                x.set(3, 0, nerve);
                x.fair(0, 0, 20, 0).is(1000 * (1000 - (99 - nerve)));
            }
            x.of(0, 6).is(5);
            x.cross(0).is(99 - 15);
            x.tell(1, "slip 7 when 1=2; shake 7 when 1=2; weight 7 when 1=2;").is(3);
            x.of(0, 6).is(5);
            x.fair(0, 0, 20, 0).is(1000 * (1000 - 15));
            LoggedBench y = new LoggedBench();
            y.witness(1, 60, 9);
            y.claim(0, 0, 0);
            y.tell(0, "motive 0 0 same same same same same;").is(1);
            for (int slips = 0; slips <= 6; slips++) {
                y.tell(1, "slip 1000 when bar < " + slips + "; slip 0;").is(2);
                y.call(0, 0, 20).is(slips);
                y.testimony(slips, 7).is(Math.max(0, 4 - slips));
            }
        });
    }

    /** As long as the tape can hold, and often: what was told ahead of it takes no room from it. */
    private static void longLaws() {
        Sentences.of(TWO, "E = T {(+ | -) T}. T = U {* U | / NUMBER}.", x -> {
            x.witness(1, 60, 1);
            for (int i = 1; i <= 9; i++) {
                shakes(x, i + Edges.repeated("*1", 192) + "+" + i, 2 * i);
                x.look(7).is(1);
            }
            x.faulty(1, "shake 1" + Edges.repeated("*1", 196) + "*", 1, 400);
            shakes(x, "7" + Edges.repeated("*1", 196), 7);
        });
    }

    private static void lawHolds() {
        Sentences.of(TWO, "slip held to 0 .. 1000", x -> {
            Edges.singer(x, 1, 60, 9, "");
            String[] slips = {"0 - 9999", "0 - 1", "0", "1", "999", "1000", "1001", "9999 * 9999"};
            int[] held = {0, 0, 0, 1, 999, 1000, 1000, 1000};
            for (int i = 0; i < slips.length; i++) {
                x.tell(1, "slip " + slips[i] + ";").is(1);
                x.fair(0, 0, 20, 0).is(1000 * (1000 - held[i]));
                x.fair(0, 0, 20, 1).is(1000000);
            }
            x.state(Edges.stateDrawing(999));
            x.tell(1, "slip 999;").is(1);
            x.call(0, 0, 20).is(0);
            x.undo().is(true);
            x.tell(1, "slip 1001;").is(1);
            x.call(0, 0, 20).is(1);
            x.state(Edges.stateDrawing(0));
            x.tell(1, "slip 0 - 1;").is(1);
            x.call(0, 0, 20).is(0);
        });
        Sentences.of(TWO, "shake to 0 .. 99", x -> {
            Edges.singer(x, 1, 60, 9, "");
            x.set(3, 0, 99);
            String[] shakes = {"0 - 9999", "0 - 1", "0", "1", "98", "99", "100", "9999 * 9999"};
            int[] held = {0, 0, 0, 1, 98, 99, 99, 99};
            for (int i = 0; i < shakes.length; i++) {
                x.tell(1, "slip 0; shake " + shakes[i] + ";").is(2);
                x.of(0, 6).is(held[i]);
                x.call(0, 0, 20).is(0);
                x.of(0, 3).is(99 - held[i]);
                x.undo().is(true);
                x.cross(0).is(Math.max(0, 89 - held[i]));
                x.undo().is(true);
            }
        });
        Sentences.of(TWO, "weight to 0 .. 99", x -> {
            Edges.singer(x, 1, 60, 9, "");
            x.call(0, 0, 20).is(0);
            String[] weights = {"0 - 9999", "0 - 1", "0", "1", "98", "99", "100", "9999 * 9999"};
            int[] held = {0, 0, 0, 1, 98, 99, 99, 99};
            for (int i = 0; i < weights.length; i++) {
                x.tell(1, "weight " + weights[i] + ";").is(1);
                x.testimony(0, 7).is(held[i]);
                x.weighed(0, 0).is(held[i]);
            }
            x.tell(1, "weight 200;").is(1);
            x.set(4, 0, 1);
            x.testimony(0, 7).is(49);
        });
    }

    private static void lawWords() {
        Sentences.of(TWO, "nerve, hoarse, breath: the WITNESS's", x -> {
            x.witness(1, 60, 1);
            x.witness(1, 60, 9);
            x.set(3, 0, 0);
            x.set(3, 1, 99);
            x.set(4, 1, 1);
            String[] words = {"nerve", "hoarse", "breath"};
            int[][] due = {{0, 99}, {0, 1}, {1, 9}};
            for (int i = 0; i < words.length; i++) {
                x.tell(1, "shake " + words[i] + ";").is(1);
                x.of(0, 6).is(due[i][0]);
                x.of(1, 6).is(due[i][1]);
            }
        });
        Sentences.of(TWO, "fact, value: of the MOTIVE (0 for shake of a crossing)", x -> {
            x.witness(1, 60, 9);
            x.claim(0, 0, 0);
            x.claim(0, 5, 3);
            x.tell(0, "motive 0 0;motive 5 3;").is(2);
            x.tell(1, "slip fact * 10 + value; shake fact * 10 + value; weight fact * 10 + value;").is(3);
            x.fair(0, 0, 20, 0).is(1000000);
            x.fair(0, 5, 20, 0).is(1000 * (1000 - 53));
            x.of(0, 6).is(0);
            x.set(3, 0, 99);
            x.cross(0).is(89);
            x.call(0, 0, 20).is(0);
            x.of(0, 3).is(89);
            x.state(Edges.stateDrawing(999));
            x.call(0, 5, 20).is(0);
            x.of(0, 3).is(89 - 53);
            x.testimony(0, 7).is(0);
            x.testimony(1, 7).is(53);
            x.claim(0, 5, 1);
            x.testimony(1, 7).is(53);
        });
        Sentences.of(TWO, "day: DAY", x -> {
            Edges.singer(x, 1, 60, 9, "");
            x.tell(1, "slip day; shake day; weight day;").is(3);
            x.call(0, 0, 20).is(0);
            x.of(0, 6).is(0);
            x.days(3);
            x.set(4, 0, 0);
            x.of(0, 6).is(3);
            x.testimony(0, 7).is(3);
            x.fair(0, 0, 20, 0).is(997000);
            for (int i = 0; i < 33; i++) {
                x.days(30);
            }
            x.days(6);
            x.set(4, 0, 0);
            x.look(1).is(999);
            x.fair(0, 0, 20, 0).is(1000);
            x.of(0, 6).is(99);
            x.testimony(0, 7).is(99);
        });
        Sentences.of(TWO, "sung: how many TESTIMONIES of that WITNESS there are", x -> {
            Edges.singer(x, 1, 60, 9, "");
            x.witness(1, 60, 9);
            x.claim(1, 0, 0);
            x.tell(1, "slip sung; shake sung; weight sung;").is(3);
            x.state(Edges.stateDrawing(999));
            for (int i = 0; i < 19; i++) {
                x.of(0, 5).is(i);
                x.of(0, 6).is(i);
                x.fair(0, 0, 20, 0).is(1000 * (1000 - i));
                x.call(0, 0, 20);
                x.testimony(0, 7).is(i + 1);
            }
            x.of(1, 6).is(0);
            x.call(1, 0, 20).is(0);
            x.of(0, 6).is(19);
            x.of(1, 6).is(1);
            x.testimony(19, 7).is(1);
            x.strike(19).is(true);
            x.of(1, 6).is(1);
            x.undo().is(true);
            x.undo().is(true);
            x.of(1, 6).is(0);
        });
        Sentences.of(TWO, "slips: how many of this TESTIMONY (weight; else 0).", x -> {
            Edges.singer(x, 1, 60, 9, "same same same same same same same");
            for (int slips = 0; slips <= 8; slips += 4) {
                x.tell(1, "slip 1000 when bar < " + slips + "; slip 0;").is(2);
                x.call(0, 0, 20).is(slips);
            }
            x.tell(1, "slip slips * 1000; shake slips + 1; weight slips;").is(3);
            x.testimony(0, 7).is(0);
            x.testimony(1, 7).is(4);
            x.testimony(2, 7).is(8);
            x.of(0, 6).is(1);
            x.fair(0, 0, 20, 0).is(1000000);
            int nerve = x.of(0, 3).value();
            x.testimony(2, 7).is(8);
            x.call(0, 0, 20).is(0);
            x.of(0, 3).is(nerve - 1);
        });
    }

    private static void lawWordsOfSinging() {
        Sentences.of(TWO, "bar: which NOTE of the MELODY is sung, 0 the first one (rests not counted; 0 for shake,"
            + " weight)", x -> {
            Edges.singer(x, 1, 60, 1, "up 1 up 1 up 1 up 1 up 1 up 1 up 1");
            for (int bar = 0; bar <= 8; bar++) {
                x.tell(1, "slip 1000 when bar = " + bar + "; slip 0; shake bar; weight bar + 1;").is(4);
                x.call(0, 0, 9).is(bar < 8 ? 1 : 0);
                for (int i = 0; i < 8; i++) {
                    x.bar(bar * 15 + i * 2).is(i == bar ? 9 + i : 10 + i);
                }
                x.testimony(bar, 7).is(1);
                x.of(0, 3).is(50);
            }
        });
        Sentences.of(TWO, "note: the NOTE as it should be (0 for shake, weight)", x -> {
            Edges.singer(x, 1, 60, 9, "up 1 up 1");
            x.tell(1, "slip 1000 when note = 11 or note = 12; slip 0; shake note; weight note + 1;").is(4);
            x.call(0, 0, 9).is(2);
            x.bar(0).is(10);
            x.bar(1).is(10);
            x.bar(2).is(11);
            x.of(0, 3).is(50);
            x.of(0, 6).is(0);
            x.testimony(0, 7).is(1);
            x.tell(1, "slip 1000 when note = 1 or note = 60; slip 0;").is(2);
            x.call(0, 0, 0).is(1);
            x.call(0, 0, 57).is(1);
            x.call(0, 0, 1).is(0);
        });
        Sentences.of(TWO, "room: HIGH less that (0 for shake, weight)", x -> {
            Edges.singer(x, 10, 30, 9, "down 5");
            x.tell(1, "slip 0; shake room; weight room + 1;").is(3);
            x.call(0, 0, 19).is(0);
            x.of(0, 3).is(50);
            x.testimony(0, 7).is(1);
            x.fair(0, 0, 19, 0).is(1000000);
            x.of(0, 6).is(0);
            x.fair(0, 0, 19, 0).is(1000000);
            x.testimony(0, 7).is(1);
            x.undo().is(true);
            x.tell(0, "motive 0 0 up 20;").is(1);
            x.tell(1, "slip 1000 when room = 0; slip 0; shake room; weight room + 1;").is(4);
            x.call(0, 0, 9).is(1);
            x.bar(0).is(10);
            x.bar(1).is(29);
            x.of(0, 3).is(50);
            x.of(0, 6).is(0);
            x.testimony(0, 7).is(1);
            x.tell(1, "slip 1000 when room = 20; slip 0;").is(2);
            x.call(0, 0, 9).is(1);
            x.bar(2).is(9);
            x.bar(3).is(30);
            x.tell(1, "slip 1000 when room > 20 or room < 0; slip 0;").is(2);
            x.call(0, 0, 9).is(0);
        });
    }
}
