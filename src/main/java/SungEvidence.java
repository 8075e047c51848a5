/**
 * A bench at which testimony is sung: witnesses, motives, a law, a trial, and what can be asked in thought.
 * No call throws and no call makes an object: all rows are made with the bench and used again.
 */
public final class SungEvidence {
    public static final int NONE = -1;

    private static final int MOST_NOTE = 60;
    private static final int FACTS = 6;
    private static final int VALUES = 4;
    private static final int MOTIVES = FACTS * VALUES;
    private static final int MOST_WITNESSES = 8;
    private static final int MOST_NERVE = 99;
    private static final int MOST_DAY = 999;
    private static final int INTERVALS = 12;
    private static final int MOST_HEARD = 12;
    private static final int MOST_REST_DAYS = 30;
    private static final int MOST_CANON = 30;
    private static final int MOST_SLIPS_ASKED = 9;
    private static final int MOST_LINES = 16;
    private static final int MOST_STEPS = 7;
    private static final int MOST_KEPT = 6;

    private static final int CALLED = 0;
    private static final int CROSSED = 1;
    private static final int STRUCK = 2;
    private static final int RESTED = 3;

    private static final int CANNOT_STAND = 1;
    private static final int WRONG_NUMBER = 2;
    private static final int TOO_MANY = 3;
    private static final int TOO_MANY_DEEDS = 4;

    private final Tape tape = new Tape();
    private final Told told = new Told();
    private final Court court = new Court();
    private final Bench bench = new Bench(told, court);
    private final Deeds deeds = new Deeds(bench);
    private final Voices voices = new Voices(bench);
    private final Verdict verdict = new Verdict(bench);

    /** A text is read into a draft, so that a fault leaves the text that stands as it was. */
    private final Motives draftMotives = new Motives();
    private final Law draftLaw = new Law();
    private final Plan draftPlan = new Plan();
    private final LawReader lawReader = new LawReader(tape, draftLaw);

    private final Told imageTold = new Told();
    private final Court imageCourt = new Court();
    private boolean imageTaken = false;

    private final Court[] kept = new Court[MOST_KEPT];
    private int keptCount = 0;
    private int keptNext = 0;

    public SungEvidence() {
        for (int i = 0; i < MOST_KEPT; i++) {
            kept[i] = new Court();
        }
    }

    public int state(int v) {
        int before = court.drawState;
        court.drawState = v;
        forgetDeeds();
        return before;
    }

    public int witness(int low, int high, int breath) {
        if (!isNote(low) || !isNote(high) || high < low || !isWithin(breath, 1, 9)) {
            return NONE;
        }
        if (told.witnesses >= MOST_WITNESSES) {
            return NONE;
        }
        int number = told.addWitness(low, high, breath);
        court.nerves[number] = 50;
        court.hoarse[number] = 0;
        forgetDeeds();
        return number;
    }

    public boolean claim(int witness, int fact, int value) {
        if (!told.isWitness(witness) || !isFact(fact) || !isWithin(value, NONE, VALUES - 1)) {
            return false;
        }
        told.claims[witness * FACTS + fact] = value;
        forgetDeeds();
        return true;
    }

    public boolean set(int what, int who, int v) {
        boolean done = what >= 3 ? setOfWitness(what, who, v) : setOfBench(what, v);
        if (done) {
            forgetDeeds();
        }
        return done;
    }

    public int feed(int a, int b, int c, int d, int e) {
        if (!tape.hasRoom(20)) {
            return NONE;
        }
        tape.addNumber(a);
        tape.addNumber(b);
        tape.addNumber(c);
        tape.addNumber(d);
        tape.addNumber(e);
        return tape.length;
    }

    public boolean end(int n) {
        if (n < 0 || n > tape.length) {
            return false;
        }
        tape.length = n;
        return true;
    }

    public int text(int k) {
        tape.clearFault();
        tape.cutIntoTokens(k);
        tape.length = 0;
        switch (k) {
            case 0: return draftMotives.readFrom(tape) ? adoptMotives() : NONE;
            case 1: return lawReader.readLines() ? adoptLaw() : NONE;
            case 2: return draftPlan.readFrom(tape, told.witnesses) ? adoptPlan() : NONE;
            default: return NONE;
        }
    }

    public int fault(int what) {
        if (what == 0) {
            return tape.fault;
        }
        return what == 1 ? tape.faultPlace : NONE;
    }

    public int call(int witness, int fact, int key) {
        if (!deeds.canBeCalled(witness, fact, key)) {
            return NONE;
        }
        keepCourt();
        return deeds.sing(witness, fact, key);
    }

    public int cross(int witness) {
        if (!told.isWitness(witness)) {
            return NONE;
        }
        keepCourt();
        deeds.crossExamine(witness);
        return court.nerves[witness];
    }

    public boolean strike(int testimony) {
        if (!court.isTestimony(testimony) || court.ofTestimony(testimony, Court.IS_STRUCK) != 0) {
            return false;
        }
        keepCourt();
        court.strikeOut(testimony);
        return true;
    }

    public int days(int n) {
        if (!isWithin(n, 1, MOST_REST_DAYS) || court.day + n > MOST_DAY) {
            return NONE;
        }
        for (int i = 0; i < n; i++) {
            keepCourt();
            deeds.restOneDay();
        }
        return court.howManyHoarse(told.witnesses);
    }

    public int trial() {
        if (court.day + told.plan.rests() > MOST_DAY) {
            return NONE;
        }
        keepCourt();
        return deeds.goThrough(told.plan);
    }

    public int of(int witness, int what) {
        if (!told.isWitness(witness)) {
            return NONE - 1;
        }
        if (isFact(what - 10)) {
            return told.claimOf(witness, what - 10);
        }
        switch (what) {
            case 0: return told.low[witness];
            case 1: return told.high[witness];
            case 2: return told.breath[witness];
            case 3: return court.nerves[witness];
            case 4: return court.hoarse[witness];
            case 5: return court.sungBy(witness);
            case 6: return bench.shakeOf(witness, 0);
            default: return NONE - 1;
        }
    }

    public int testimony(int i, int what) {
        if (!court.isTestimony(i)) {
            return NONE;
        }
        if (what == 7) {
            return bench.weightOfTestimony(i);
        }
        return isWithin(what, 0, Court.IS_STRUCK) ? court.ofTestimony(i, what) : NONE;
    }

    public int bar(int i) {
        return i >= 0 && i < court.bars ? court.record[i] : NONE;
    }

    public int motive(int which, int what) {
        if (!isWithin(which, 0, MOTIVES - 1)) {
            return NONE - 99;
        }
        int notes = told.motives.notes[which];
        if (what == 0) {
            return notes;
        }
        return isWithin(what, 1, notes - 1) ? told.motives.stepOf(which, what - 1) : NONE - 99;
    }

    public int book(int i, int what) {
        if (i < 0 || i >= court.lines || !isWithin(what, 0, Court.LINE_CELLS - 1)) {
            return NONE - 1;
        }
        return court.book[i * Court.LINE_CELLS + what];
    }

    public int keys(int witness, int fact, int what) {
        int which = bench.motiveOf(witness, fact);
        if (which == NONE || !isWithin(what, 0, 2)) {
            return NONE;
        }
        int howMany = bench.howManyKeys(witness, which);
        if (what == 0) {
            return howMany;
        }
        if (howMany == 0) {
            return NONE;
        }
        return what == 1 ? bench.lowestKey(witness, which) : bench.highestKey(witness, which);
    }

    public int fair(int witness, int fact, int key, int e) {
        int which = bench.motiveOf(witness, fact);
        if (!isWithin(e, 0, MOST_SLIPS_ASKED) || !bench.canSing(witness, which, key)) {
            return NONE;
        }
        return voices.likelyWithin(witness, which, key, e);
    }

    public int heard(int note) {
        if (note == 0) {
            told.heardNotes = 0;
            return 0;
        }
        if (!isNote(note) || told.heardNotes >= MOST_HEARD) {
            return NONE;
        }
        told.heardRow[told.heardNotes] = note;
        told.heardNotes++;
        return told.heardNotes;
    }

    public int read(int e, int what) {
        if (!isWithin(e, 0, MOST_SLIPS_ASKED) || !isWithin(what, 0, 2)) {
            return NONE;
        }
        return voices.motivesHeard(e, what);
    }

    public int duet(int a, int b) {
        if (!court.isTestimony(a) || !court.isTestimony(b)) {
            return NONE;
        }
        return voices.soundingBars(a, b);
    }

    public int best(int witness, int fact, int testimony, int what) {
        int which = bench.motiveOf(witness, fact);
        if (which == NONE || !court.isTestimony(testimony) || !isWithin(what, 0, 1)) {
            return NONE;
        }
        return voices.bestKey(witness, which, testimony, what);
    }

    public int canon(int testimony, int d) {
        if (!court.isTestimony(testimony) || !isWithin(d, 1, MOST_CANON)) {
            return NONE;
        }
        return voices.soundingBehind(testimony, d);
    }

    public int weighed(int fact, int value) {
        return isFact(fact) && isValue(value) ? verdict.weightFor(fact, value) : NONE;
    }

    public int found(int fact) {
        return isFact(fact) ? verdict.finding(fact) : NONE;
    }

    public int calls(int fact, int value, int what) {
        if (!isFact(fact) || !isValue(value) || !isWithin(what, 0, 1)) {
            return NONE;
        }
        int callers = verdict.fewestCallers(fact, value);
        return what == 0 && callers != NONE ? Integer.bitCount(callers) : callers;
    }

    public int choir(int what) {
        if (!isWithin(what, 0, 1)) {
            return NONE;
        }
        int singers = verdict.largestChoir();
        return what == 0 ? Integer.bitCount(singers) : singers;
    }

    public int worlds(int e, int what) {
        if (!isWithin(e, 0, MOST_WITNESSES) || !isWithin(what, 0, 2)) {
            return NONE;
        }
        return verdict.worldsWith(e, what);
    }

    public int chord(int a, int b, int c, int d, int note, int what) {
        if (!told.isWitness(a) || !told.isWitness(b) || !told.isWitness(c) || !told.isWitness(d)) {
            return NONE;
        }
        boolean alike = a == b || a == c || a == d || b == c || b == d || c == d;
        if (alike || !isWithin(note, told.low[a], told.high[a]) || !isWithin(what, 0, 3)) {
            return NONE;
        }
        return voices.chordOf(b, c, d, note, what);
    }

    public boolean undo() {
        if (keptCount == 0) {
            return false;
        }
        keptNext = keptNext == 0 ? MOST_KEPT - 1 : keptNext - 1;
        keptCount--;
        court.copyFrom(kept[keptNext]);
        return true;
    }

    public boolean image(boolean taken) {
        if (taken) {
            imageTold.copyFrom(told);
            imageCourt.copyFrom(court);
            imageTaken = true;
            return true;
        }
        if (!imageTaken) {
            return false;
        }
        told.copyFrom(imageTold);
        court.copyFrom(imageCourt);
        forgetDeeds();
        return true;
    }

    public int look(int what) {
        switch (what) {
            case 0: return told.witnesses;
            case 1: return court.day;
            case 2: return court.testimonies;
            case 3: return court.bars;
            case 4: return court.lines;
            case 5: return court.drawState;
            case 6: return told.motives.lines;
            case 7: return told.law.lines;
            case 8: return told.plan.howMany;
            case 9: return told.heardNotes;
            case 10: return keptCount;
            case 11: return told.sound;
            case 12: return told.need;
            case 13: return told.flats;
            default: return NONE;
        }
    }

    private boolean setOfBench(int what, int v) {
        if (what == 0 && isWithin(v, 0, (1 << INTERVALS) - 1)) {
            told.sound = v;
            return true;
        }
        if (what == 1 && isWithin(v, 1, 999)) {
            told.need = v;
            return true;
        }
        if (what == 2 && isWithin(v, 0, 9)) {
            told.flats = v;
            return true;
        }
        return false;
    }

    private boolean setOfWitness(int what, int who, int v) {
        if (!told.isWitness(who)) {
            return false;
        }
        if (what == 3 && isWithin(v, 0, MOST_NERVE)) {
            court.nerves[who] = v;
            return true;
        }
        if (what == 4 && isWithin(v, 0, 1)) {
            court.hoarse[who] = v;
            return true;
        }
        return false;
    }

    private int adoptMotives() {
        told.motives.copyFrom(draftMotives);
        forgetDeeds();
        return draftMotives.lines;
    }

    /** A new law leaves the deeds that can be undone: none of them holds the law. */
    private int adoptLaw() {
        told.law.copyFrom(draftLaw);
        return draftLaw.lines;
    }

    private int adoptPlan() {
        told.plan.copyFrom(draftPlan);
        forgetDeeds();
        return draftPlan.howMany;
    }

    private void keepCourt() {
        Court slot = kept[keptNext];
        if (slot != null) {
            slot.copyFrom(court);
        }
        keptNext = keptNext == MOST_KEPT - 1 ? 0 : keptNext + 1;
        keptCount = Math.min(MOST_KEPT, keptCount + 1);
    }

    private void forgetDeeds() {
        keptCount = 0;
        keptNext = 0;
    }

    private static boolean isWithin(int v, int least, int most) {
        return v >= least && v <= most;
    }

    private static boolean isNote(int v) {
        return isWithin(v, 1, MOST_NOTE);
    }

    private static boolean isFact(int v) {
        return isWithin(v, 0, FACTS - 1);
    }

    private static boolean isValue(int v) {
        return isWithin(v, 0, VALUES - 1);
    }

    private static int held(int v, int most) {
        return Math.max(0, Math.min(most, v));
    }

    /** The tape, its tokens once it is read as a text, and the fault that the reading met. */
    private static final class Tape {
        static final int MOST_BYTES = 400;
        static final int NUMBER = 256;
        static final int END = 257;
        static final int UNKNOWN = 258;
        /** A keyword's kind is this and its place in the list of its text's keywords; a sign's kind is the sign. */
        static final int WORD = 300;

        private static final int LETTER = 1;
        private static final int DIGIT = 2;
        private static final int BLANK = 3;
        private static final int SIGN = 4;

        private static final String MOTIVE_WORDS = "motive up down same ";
        private static final String LAW_WORDS =
            "slip shake weight when or and not nerve hoarse breath bar note room fact value day sung slips ";
        private static final String PLAN_WORDS = "call on in cross rest again ";

        final int[] bytes = new int[MOST_BYTES];
        int length = 0;
        int fault = 0;
        int faultPlace = NONE;

        private final int[] kinds = new int[MOST_BYTES + 1];
        private final int[] places = new int[MOST_BYTES + 1];
        private final int[] sizes = new int[MOST_BYTES + 1];
        private int tokens = 0;
        private int at = 0;

        boolean hasRoom(int more) {
            return length + more <= MOST_BYTES;
        }

        void addNumber(int number) {
            for (int shift = 24; shift >= 0; shift -= 8) {
                if (length < MOST_BYTES) {
                    bytes[length] = (number >>> shift) & 255;
                    length++;
                }
            }
        }

        void clearFault() {
            fault = 0;
            faultPlace = NONE;
        }

        /** Tells the fault at the token that is next; answers false, so that a reader can end with it. */
        boolean refuse(int which) {
            fault = which;
            faultPlace = places[at];
            return false;
        }

        int kind() {
            return kinds[at];
        }

        void skip() {
            if (at < tokens) {
                at++;
            }
        }

        boolean take(int kind) {
            if (kinds[at] != kind) {
                return refuse(CANNOT_STAND);
            }
            skip();
            return true;
        }

        /** Looks at a number without taking it, since some faults behind its bounds lie at its place too. */
        boolean isNumberWithin(int least, int most) {
            if (kinds[at] != NUMBER) {
                return refuse(CANNOT_STAND);
            }
            return isWithin(number(), least, most) || refuse(WRONG_NUMBER);
        }

        /** The number that is next; only where kind() is NUMBER, so that it has four digits at most. */
        int number() {
            int value = 0;
            for (int i = 0; i < sizes[at] && i < 4 && places[at] + i < MOST_BYTES; i++) {
                value = value * 10 + bytes[places[at] + i] - '0';
            }
            return value;
        }

        /** The bytes stay behind a text's length until the next feed: the reader still asks for its numbers. */
        void cutIntoTokens(int text) {
            String words = text == 0 ? MOTIVE_WORDS : text == 1 ? LAW_WORDS : PLAN_WORDS;
            tokens = 0;
            at = 0;
            int before = BLANK;
            for (int i = 0; i < length; i++) {
                int sort = sortOf(bytes[i]);
                if (sort == before && (sort == LETTER || sort == DIGIT)) {
                    sizes[tokens - 1]++;
                } else if (sort != BLANK) {
                    addToken(i);
                }
                before = sort;
            }
            for (int i = 0; i < tokens; i++) {
                kinds[i] = kindOf(i, words);
            }
            kinds[tokens] = END;
            places[tokens] = length;
            sizes[tokens] = 0;
        }

        private void addToken(int place) {
            if (tokens < MOST_BYTES) {
                places[tokens] = place;
                sizes[tokens] = 1;
                tokens++;
            }
        }

        private static int sortOf(int sign) {
            if (isWithin(sign, 'a', 'z') || isWithin(sign, 'A', 'Z')) {
                return LETTER;
            }
            if (isWithin(sign, '0', '9')) {
                return DIGIT;
            }
            return sign == 32 || sign == 10 ? BLANK : SIGN;
        }

        private int kindOf(int token, String words) {
            int sign = bytes[places[token]];
            int sort = sortOf(sign);
            if (sort == LETTER) {
                return wordOf(token, words);
            }
            if (sort == DIGIT) {
                return sizes[token] <= 4 ? NUMBER : UNKNOWN;
            }
            return sign;
        }

        private int wordOf(int token, String words) {
            int word = WORD;
            int start = 0;
            for (int i = 0; i < words.length(); i++) {
                if (words.charAt(i) == ' ') {
                    if (i - start == sizes[token] && isSpelled(words, start, i, places[token])) {
                        return word;
                    }
                    word++;
                    start = i + 1;
                }
            }
            return UNKNOWN;
        }

        private boolean isSpelled(String words, int from, int to, int place) {
            for (int i = from; i < to; i++) {
                int byteAt = place + i - from;
                if (byteAt >= MOST_BYTES || words.charAt(i) != bytes[byteAt]) {
                    return false;
                }
            }
            return true;
        }
    }

    /** TEXT 0: of each fact and value the steps of its motive. */
    private static final class Motives {
        private static final int MOTIVE = Tape.WORD;
        private static final int UP = Tape.WORD + 1;
        private static final int DOWN = Tape.WORD + 2;
        private static final int SAME = Tape.WORD + 3;

        int lines = 0;
        /** How many notes a motive has; 0 if it has no line. */
        final int[] notes = new int[MOTIVES];
        private final int[] steps = new int[MOTIVES * MOST_STEPS];

        void copyFrom(Motives other) {
            lines = other.lines;
            System.arraycopy(other.notes, 0, notes, 0, MOTIVES);
            System.arraycopy(other.steps, 0, steps, 0, MOTIVES * MOST_STEPS);
        }

        int stepOf(int which, int i) {
            boolean there = isWithin(which, 0, MOTIVES - 1) && isWithin(i, 0, MOST_STEPS - 1);
            return there ? steps[which * MOST_STEPS + i] : 0;
        }

        /** How far the motive goes above its first note. */
        int rise(int which) {
            int most = 0;
            int now = 0;
            for (int i = 0; i < notes[which] - 1; i++) {
                now += stepOf(which, i);
                most = Math.max(most, now);
            }
            return most;
        }

        /** How far the motive goes below its first note. */
        int fall(int which) {
            int most = 0;
            int now = 0;
            for (int i = 0; i < notes[which] - 1; i++) {
                now -= stepOf(which, i);
                most = Math.max(most, now);
            }
            return most;
        }

        boolean readFrom(Tape tape) {
            lines = 0;
            for (int i = 0; i < MOTIVES; i++) {
                notes[i] = 0;
            }
            for (int i = 0; i <= MOST_LINES; i++) {
                if (tape.kind() == Tape.END) {
                    return true;
                }
                if (!readLine(tape)) {
                    return false;
                }
            }
            return false;
        }

        private boolean readLine(Tape tape) {
            if (tape.kind() == MOTIVE && lines == MOST_LINES) {
                return tape.refuse(TOO_MANY);
            }
            if (!tape.take(MOTIVE) || !tape.isNumberWithin(0, FACTS - 1)) {
                return false;
            }
            int fact = tape.number();
            tape.skip();
            if (!tape.isNumberWithin(0, VALUES - 1)) {
                return false;
            }
            int which = fact * VALUES + tape.number();
            if (notes[which] != 0) {
                return tape.refuse(WRONG_NUMBER);
            }
            tape.skip();
            notes[which] = 1;
            lines++;
            return readSteps(tape, which);
        }

        private boolean readSteps(Tape tape, int which) {
            for (int i = 0; i <= MOST_STEPS; i++) {
                int kind = tape.kind();
                if (kind != UP && kind != DOWN && kind != SAME) {
                    return tape.take(';');
                }
                if (i == MOST_STEPS) {
                    return tape.refuse(TOO_MANY);
                }
                tape.skip();
                if (kind != SAME && !tape.isNumberWithin(1, 24)) {
                    return false;
                }
                steps[which * MOST_STEPS + i] = readStep(tape, kind);
                notes[which]++;
            }
            return false;
        }

        private static int readStep(Tape tape, int kind) {
            if (kind == SAME) {
                return 0;
            }
            int far = tape.number();
            tape.skip();
            return kind == UP ? far : -far;
        }
    }

    /** TEXT 1, held as orders for a stack: of each line those of its worth, then those of its condition. */
    private static final class Law {
        static final int SLIP = 0;
        static final int SHAKE = 1;
        static final int WEIGHT = 2;

        static final int PUSH = 0;
        static final int TERM = 1;
        static final int PART = 2;
        static final int NOT = 3;
        static final int TIMES = 4;
        static final int PLUS = 5;
        static final int MINUS = 6;
        static final int LESS = 7;
        static final int EQUAL = 8;
        static final int MORE = 9;
        static final int AND = 10;
        static final int OR = 11;

        private static final int MOST_ORDERS = 400;
        /** Far above the two dozen that eight open brackets can need. */
        private static final int MOST_STACK = 64;
        private static final int ORDER_SHIFT = 14;

        int lines = 0;
        private int orders = 0;
        private final int[] order = new int[MOST_ORDERS];
        private final int[] words = new int[MOST_LINES];
        private final int[] starts = new int[MOST_LINES];
        private final int[] conditions = new int[MOST_LINES];
        private final int[] ends = new int[MOST_LINES];
        private final int[] stack = new int[MOST_STACK];

        void copyFrom(Law other) {
            lines = other.lines;
            orders = other.orders;
            System.arraycopy(other.order, 0, order, 0, MOST_ORDERS);
            System.arraycopy(other.words, 0, words, 0, MOST_LINES);
            System.arraycopy(other.starts, 0, starts, 0, MOST_LINES);
            System.arraycopy(other.conditions, 0, conditions, 0, MOST_LINES);
            System.arraycopy(other.ends, 0, ends, 0, MOST_LINES);
        }

        void clear() {
            lines = 0;
            orders = 0;
        }

        /** A text has fewer tokens than there is room for orders; the answer lets a reader end with one. */
        boolean addOrder(int kind, int operand) {
            if (orders >= MOST_ORDERS) {
                return false;
            }
            order[orders] = (kind << ORDER_SHIFT) + operand;
            orders++;
            return true;
        }

        void openLine(int word) {
            if (lines < MOST_LINES) {
                words[lines] = word;
                starts[lines] = orders;
            }
        }

        void openCondition() {
            if (lines < MOST_LINES) {
                conditions[lines] = orders;
            }
        }

        void closeLine() {
            if (lines < MOST_LINES) {
                ends[lines] = orders;
                lines++;
            }
        }

        /** What the first line with that word tells whose condition is so; otherwise what is handed in. */
        int tell(int word, int[] terms, int otherwise) {
            for (int i = 0; i < lines && i < MOST_LINES; i++) {
                boolean bare = conditions[i] == ends[i];
                if (words[i] == word && (bare || worth(conditions[i], ends[i], terms) != 0)) {
                    return worth(starts[i], conditions[i], terms);
                }
            }
            return otherwise;
        }

        private int worth(int from, int to, int[] terms) {
            int top = 0;
            for (int i = from; i < to && i < MOST_ORDERS; i++) {
                int kind = order[i] >> ORDER_SHIFT;
                int operand = order[i] & ((1 << ORDER_SHIFT) - 1);
                if (kind == PUSH && top < MOST_STACK) {
                    stack[top] = operand;
                    top++;
                } else if (kind == TERM && top < MOST_STACK && operand < terms.length) {
                    stack[top] = terms[operand];
                    top++;
                } else if (kind == PART && top > 0 && operand > 0) {
                    stack[top - 1] = stack[top - 1] / operand;
                } else if (kind == NOT && top > 0) {
                    stack[top - 1] = 1 - stack[top - 1];
                } else if (top > 1) {
                    top--;
                    stack[top - 1] = joined(kind, stack[top - 1], stack[top]);
                }
            }
            return stack[0];
        }

        private static int joined(int kind, int left, int right) {
            switch (kind) {
                case TIMES: return left * right;
                case PLUS: return left + right;
                case MINUS: return left - right;
                case LESS: return left < right ? 1 : 0;
                case EQUAL: return left == right ? 1 : 0;
                case MORE: return left > right ? 1 : 0;
                case AND: return left & right;
                default: return left | right;
            }
        }
    }

    /** Reads TEXT 1 into orders, an operand ahead of its operator, as the grammar of the law descends. */
    private static final class LawReader {
        private static final int WEIGHT = Tape.WORD + Law.WEIGHT;
        private static final int WHEN = Tape.WORD + 3;
        private static final int OR = Tape.WORD + 4;
        private static final int AND = Tape.WORD + 5;
        private static final int NOT = Tape.WORD + 6;
        private static final int FIRST_TERM = Tape.WORD + 7;
        private static final int LAST_TERM = FIRST_TERM + Bench.TERMS - 1;
        private static final int MOST_OPEN = 8;

        private final Tape tape;
        private final Law law;

        LawReader(Tape tape, Law law) {
            this.tape = tape;
            this.law = law;
        }

        boolean readLines() {
            law.clear();
            for (int i = 0; i <= MOST_LINES; i++) {
                int kind = tape.kind();
                if (kind == Tape.END) {
                    return true;
                }
                if (!isWithin(kind, Tape.WORD, WEIGHT)) {
                    return tape.refuse(CANNOT_STAND);
                }
                if (i == MOST_LINES) {
                    return tape.refuse(TOO_MANY);
                }
                tape.skip();
                law.openLine(kind - Tape.WORD);
                if (!readSum()) {
                    return false;
                }
                law.openCondition();
                if (tape.kind() == WHEN && !readCondition(0)) {
                    return false;
                }
                law.closeLine();
                if (!tape.take(';')) {
                    return false;
                }
            }
            return false;
        }

        /** What stands behind a when or a bracket, which is taken with it: tests joined by and, those by or. */
        private boolean readCondition(int open) {
            boolean behindAnd = false;
            boolean behindOr = false;
            for (int i = 0; i < Tape.MOST_BYTES; i++) {
                tape.skip();
                if (!readTest(open)) {
                    return false;
                }
                if (behindAnd) {
                    law.addOrder(Law.AND, 0);
                }
                behindAnd = tape.kind() == AND;
                if (!behindAnd && behindOr) {
                    law.addOrder(Law.OR, 0);
                }
                behindOr = behindAnd ? behindOr : tape.kind() == OR;
                if (!behindAnd && !behindOr) {
                    return true;
                }
            }
            return false;
        }

        private boolean readTest(int open) {
            int kind = tape.kind();
            if ((kind == NOT || kind == '(') && open >= MOST_OPEN) {
                return tape.refuse(TOO_MANY);
            }
            if (kind == '(') {
                return readCondition(open + 1) && tape.take(')');
            }
            if (kind == NOT) {
                tape.skip();
                return readTest(open + 1) && law.addOrder(Law.NOT, 0);
            }
            if (!readSum()) {
                return false;
            }
            int comparison = comparisonOf(tape.kind());
            if (comparison == NONE) {
                return tape.refuse(CANNOT_STAND);
            }
            tape.skip();
            return readSum() && law.addOrder(comparison, 0);
        }

        private static int comparisonOf(int kind) {
            switch (kind) {
                case '<': return Law.LESS;
                case '=': return Law.EQUAL;
                case '>': return Law.MORE;
                default: return NONE;
            }
        }

        private boolean readSum() {
            if (!readProduct()) {
                return false;
            }
            for (int i = 0; i < Tape.MOST_BYTES; i++) {
                int kind = tape.kind();
                if (kind != '+' && kind != '-') {
                    return true;
                }
                tape.skip();
                if (!readProduct()) {
                    return false;
                }
                law.addOrder(kind == '+' ? Law.PLUS : Law.MINUS, 0);
            }
            return false;
        }

        private boolean readProduct() {
            if (!readUnit()) {
                return false;
            }
            for (int i = 0; i < Tape.MOST_BYTES; i++) {
                int kind = tape.kind();
                if (kind != '*' && kind != '/') {
                    return true;
                }
                tape.skip();
                if (kind == '*' ? !readUnit() : !tape.isNumberWithin(1, 9999)) {
                    return false;
                }
                if (kind == '*') {
                    law.addOrder(Law.TIMES, 0);
                } else {
                    law.addOrder(Law.PART, tape.number());
                    tape.skip();
                }
            }
            return false;
        }

        private boolean readUnit() {
            int kind = tape.kind();
            if (kind == Tape.NUMBER) {
                law.addOrder(Law.PUSH, tape.number());
            } else if (isWithin(kind, FIRST_TERM, LAST_TERM)) {
                law.addOrder(Law.TERM, kind - FIRST_TERM);
            } else {
                return tape.refuse(CANNOT_STAND);
            }
            tape.skip();
            return true;
        }
    }

    /** TEXT 2: the deeds of a trial one by one, each again written out as often as it is told. */
    private static final class Plan {
        private static final int CALL = Tape.WORD;
        private static final int ON = Tape.WORD + 1;
        private static final int IN = Tape.WORD + 2;
        private static final int CROSS = Tape.WORD + 3;
        private static final int REST = Tape.WORD + 4;
        private static final int AGAIN = Tape.WORD + 5;
        private static final int MOST_DEEDS = 60;
        private static final int MOST_AGAINS = 4;

        /** While a text is read this may go beyond what is held, until the end tells the fault. */
        int howMany = 0;
        final int[] kinds = new int[MOST_DEEDS];
        final int[] who = new int[MOST_DEEDS];
        final int[] facts = new int[MOST_DEEDS];
        final int[] inKeys = new int[MOST_DEEDS];
        private final int[] againFrom = new int[MOST_AGAINS];
        private final int[] againTimes = new int[MOST_AGAINS];
        private int open = 0;

        void copyFrom(Plan other) {
            howMany = other.howMany;
            System.arraycopy(other.kinds, 0, kinds, 0, MOST_DEEDS);
            System.arraycopy(other.who, 0, who, 0, MOST_DEEDS);
            System.arraycopy(other.facts, 0, facts, 0, MOST_DEEDS);
            System.arraycopy(other.inKeys, 0, inKeys, 0, MOST_DEEDS);
        }

        int rests() {
            int count = 0;
            for (int i = 0; i < howMany && i < MOST_DEEDS; i++) {
                if (kinds[i] == RESTED) {
                    count++;
                }
            }
            return count;
        }

        boolean readFrom(Tape tape, int witnesses) {
            howMany = 0;
            open = 0;
            for (int i = 0; i <= Tape.MOST_BYTES; i++) {
                if (tape.kind() == Tape.END) {
                    return readEnd(tape);
                }
                if (!readDeed(tape, witnesses)) {
                    return false;
                }
            }
            return false;
        }

        private boolean readEnd(Tape tape) {
            if (open > 0) {
                return tape.refuse(CANNOT_STAND);
            }
            return howMany <= MOST_DEEDS || tape.refuse(TOO_MANY_DEEDS);
        }

        private boolean readDeed(Tape tape, int witnesses) {
            switch (tape.kind()) {
                case CALL:
                    return readCall(tape, witnesses);
                case CROSS:
                    return readCross(tape, witnesses);
                case REST:
                    tape.skip();
                    addDeed(RESTED, 0, 0, 0);
                    return true;
                case AGAIN:
                    return readAgain(tape);
                case ')':
                    return closeAgain(tape);
                default:
                    return tape.refuse(CANNOT_STAND);
            }
        }

        private boolean readCall(Tape tape, int witnesses) {
            tape.skip();
            if (!tape.isNumberWithin(0, witnesses - 1)) {
                return false;
            }
            int witness = tape.number();
            tape.skip();
            if (!tape.take(ON) || !tape.isNumberWithin(0, FACTS - 1)) {
                return false;
            }
            int fact = tape.number();
            tape.skip();
            if (!tape.take(IN) || !tape.isNumberWithin(0, MOST_NOTE - 1)) {
                return false;
            }
            addDeed(CALLED, witness, fact, tape.number());
            tape.skip();
            return true;
        }

        private boolean readCross(Tape tape, int witnesses) {
            tape.skip();
            if (!tape.isNumberWithin(0, witnesses - 1)) {
                return false;
            }
            addDeed(CROSSED, tape.number(), 0, 0);
            tape.skip();
            return true;
        }

        private boolean readAgain(Tape tape) {
            if (open >= MOST_AGAINS) {
                return tape.refuse(TOO_MANY);
            }
            tape.skip();
            if (!tape.isNumberWithin(1, 9)) {
                return false;
            }
            againTimes[open] = tape.number();
            againFrom[open] = howMany;
            open++;
            tape.skip();
            return tape.take('(');
        }

        private boolean closeAgain(Tape tape) {
            if (open == 0) {
                return tape.refuse(CANNOT_STAND);
            }
            tape.skip();
            open--;
            int from = againFrom[open];
            int size = howMany - from;
            int until = from + size * againTimes[open];
            for (int i = howMany; i < until && i < MOST_DEEDS; i++) {
                copyDeed(i - size, i);
            }
            howMany = until;
            return true;
        }

        private void copyDeed(int from, int to) {
            if (isWithin(from, 0, MOST_DEEDS - 1)) {
                kinds[to] = kinds[from];
                who[to] = who[from];
                facts[to] = facts[from];
                inKeys[to] = inKeys[from];
            }
        }

        private void addDeed(int kind, int witness, int fact, int key) {
            if (howMany < MOST_DEEDS) {
                kinds[howMany] = kind;
                who[howMany] = witness;
                facts[howMany] = fact;
                inKeys[howMany] = key;
            }
            howMany++;
        }
    }

    /** What is told and no deed changes. */
    private static final class Told {
        int witnesses = 0;
        final int[] low = new int[MOST_WITNESSES];
        final int[] high = new int[MOST_WITNESSES];
        final int[] breath = new int[MOST_WITNESSES];
        final int[] claims = new int[MOST_WITNESSES * FACTS];
        /** The bits 0, 3, 4, 5, 7, 8 and 9. */
        int sound = 953;
        int need = 10;
        int flats = 1;
        int heardNotes = 0;
        final int[] heardRow = new int[MOST_HEARD];
        final Motives motives = new Motives();
        final Law law = new Law();
        final Plan plan = new Plan();

        void copyFrom(Told other) {
            witnesses = other.witnesses;
            System.arraycopy(other.low, 0, low, 0, MOST_WITNESSES);
            System.arraycopy(other.high, 0, high, 0, MOST_WITNESSES);
            System.arraycopy(other.breath, 0, breath, 0, MOST_WITNESSES);
            System.arraycopy(other.claims, 0, claims, 0, MOST_WITNESSES * FACTS);
            sound = other.sound;
            need = other.need;
            flats = other.flats;
            heardNotes = other.heardNotes;
            System.arraycopy(other.heardRow, 0, heardRow, 0, MOST_HEARD);
            motives.copyFrom(other.motives);
            law.copyFrom(other.law);
            plan.copyFrom(other.plan);
        }

        boolean isWitness(int v) {
            return v >= 0 && v < witnesses;
        }

        /** Only where there is room for one. */
        int addWitness(int lowest, int highest, int breaths) {
            int number = witnesses;
            low[number] = lowest;
            high[number] = highest;
            breath[number] = breaths;
            for (int fact = 0; fact < FACTS; fact++) {
                claims[number * FACTS + fact] = NONE;
            }
            witnesses++;
            return number;
        }

        int claimOf(int witness, int fact) {
            return isWitness(witness) && isFact(fact) ? claims[witness * FACTS + fact] : NONE;
        }

        boolean sounds(int a, int b) {
            return (sound >> (Math.abs(a - b) % INTERVALS) & 1) != 0;
        }

        /** A bar of 0 is a rest, or a slip of the lowest note, which counts as one. */
        boolean barsSound(int a, int b) {
            return a != 0 && b != 0 && sounds(a, b);
        }
    }

    /** What deeds change, and so what is kept of them to be undone. */
    private static final class Court {
        static final int BY = 0;
        static final int ON_FACT = 1;
        static final int WITH_VALUE = 2;
        static final int SLIPS = 3;
        static final int FIRST_BAR = 4;
        static final int HOW_MANY_BARS = 5;
        static final int IS_STRUCK = 6;
        static final int LINE_CELLS = 5;

        private static final int TESTIMONY_CELLS = 7;
        private static final int MOST_TESTIMONIES = 20;
        private static final int MOST_BARS = 200;
        private static final int MOST_BOOK_LINES = 120;

        int drawState = 0;
        int day = 0;
        final int[] nerves = new int[MOST_WITNESSES];
        final int[] hoarse = new int[MOST_WITNESSES];
        int testimonies = 0;
        private final int[] testimonyCells = new int[MOST_TESTIMONIES * TESTIMONY_CELLS];
        int bars = 0;
        final int[] record = new int[MOST_BARS];
        int lines = 0;
        final int[] book = new int[MOST_BOOK_LINES * LINE_CELLS];

        void copyFrom(Court other) {
            if (other == null) {
                return;
            }
            drawState = other.drawState;
            day = other.day;
            System.arraycopy(other.nerves, 0, nerves, 0, MOST_WITNESSES);
            System.arraycopy(other.hoarse, 0, hoarse, 0, MOST_WITNESSES);
            testimonies = other.testimonies;
            System.arraycopy(other.testimonyCells, 0, testimonyCells, 0, MOST_TESTIMONIES * TESTIMONY_CELLS);
            bars = other.bars;
            System.arraycopy(other.record, 0, record, 0, MOST_BARS);
            lines = other.lines;
            System.arraycopy(other.book, 0, book, 0, MOST_BOOK_LINES * LINE_CELLS);
        }

        int draw(int below) {
            drawState = drawState * 1664525 + 1013904223;
            return below > 0 ? (drawState >>> 8) % below : 0;
        }

        boolean isTestimony(int i) {
            return i >= 0 && i < testimonies;
        }

        /** Only of a testimony that there is. */
        int ofTestimony(int i, int cell) {
            return testimonyCells[i * TESTIMONY_CELLS + cell];
        }

        boolean hasRoom(int moreBars) {
            return testimonies < MOST_TESTIMONIES && bars + moreBars <= MOST_BARS;
        }

        void addBar(int note) {
            if (bars < MOST_BARS) {
                record[bars] = note;
                bars++;
            }
        }

        void addTestimony(int witness, int which, int slips, int firstBar) {
            if (testimonies >= MOST_TESTIMONIES) {
                return;
            }
            int at = testimonies * TESTIMONY_CELLS;
            testimonyCells[at + BY] = witness;
            testimonyCells[at + ON_FACT] = which / VALUES;
            testimonyCells[at + WITH_VALUE] = which % VALUES;
            testimonyCells[at + SLIPS] = slips;
            testimonyCells[at + FIRST_BAR] = firstBar;
            testimonyCells[at + HOW_MANY_BARS] = bars - firstBar;
            testimonyCells[at + IS_STRUCK] = 0;
            testimonies++;
        }

        int barOf(int testimony, int i) {
            boolean there = isTestimony(testimony) && isWithin(i, 0, ofTestimony(testimony, HOW_MANY_BARS) - 1);
            return there ? record[ofTestimony(testimony, FIRST_BAR) + i] : 0;
        }

        int sungBy(int witness) {
            int count = 0;
            for (int i = 0; i < testimonies; i++) {
                if (ofTestimony(i, BY) == witness) {
                    count++;
                }
            }
            return count;
        }

        int howManyHoarse(int witnesses) {
            int count = 0;
            for (int i = 0; i < witnesses && i < MOST_WITNESSES; i++) {
                count += hoarse[i];
            }
            return count;
        }

        /** Only of a testimony that there is. */
        void strikeOut(int testimony) {
            testimonyCells[testimony * TESTIMONY_CELLS + IS_STRUCK] = 1;
            write(STRUCK, testimony, NONE, 0);
        }

        void write(int what, int who, int fact, int slips) {
            if (lines >= MOST_BOOK_LINES) {
                return;
            }
            int at = lines * LINE_CELLS;
            book[at] = day;
            book[at + 1] = what;
            book[at + 2] = who;
            book[at + 3] = fact;
            book[at + 4] = slips;
            lines++;
        }
    }

    /** What the witnesses can sing, and what the law tells of them as they are now. */
    private static final class Bench {
        /** The law's terms, as its keywords name them. */
        static final int TERMS = 11;
        private static final int NERVE = 0;
        private static final int HOARSE = 1;
        private static final int BREATH = 2;
        private static final int BAR = 3;
        private static final int NOTE = 4;
        private static final int ROOM = 5;
        private static final int FACT = 6;
        private static final int VALUE = 7;
        private static final int DAY = 8;
        private static final int SUNG = 9;
        private static final int SLIPS = 10;

        final Told told;
        final Court court;
        private final int[] terms = new int[TERMS];

        Bench(Told told, Court court) {
            this.told = told;
            this.court = court;
        }

        /** The motive of a witness's claim of a fact; NONE if there is no claim, or no line for it. */
        int motiveOf(int witness, int fact) {
            int value = told.claimOf(witness, fact);
            if (value == NONE) {
                return NONE;
            }
            int which = fact * VALUES + value;
            return told.motives.notes[which] == 0 ? NONE : which;
        }

        int lowestKey(int witness, int which) {
            return told.low[witness] - 1 + told.motives.fall(which);
        }

        int highestKey(int witness, int which) {
            return told.high[witness] - 1 - told.motives.rise(which);
        }

        /** A motive fits from each key between the lowest and the highest, so that they need no list. */
        int howManyKeys(int witness, int which) {
            return Math.max(0, highestKey(witness, which) - lowestKey(witness, which) + 1);
        }

        boolean canSing(int witness, int which, int key) {
            return which != NONE && isWithin(key, lowestKey(witness, which), highestKey(witness, which));
        }

        int slipOf(int witness, int which, int bar, int note) {
            setTerms(witness, which);
            terms[BAR] = bar;
            terms[NOTE] = note;
            terms[ROOM] = told.high[witness] - note;
            return held(told.law.tell(Law.SLIP, terms, 99 - terms[NERVE]), 1000);
        }

        int shakeOf(int witness, int which) {
            setTerms(witness, which);
            return held(told.law.tell(Law.SHAKE, terms, 5), 99);
        }

        int weightOf(int witness, int which, int slips) {
            setTerms(witness, which);
            terms[SLIPS] = slips;
            int weight = held(told.law.tell(Law.WEIGHT, terms, 4 - slips), 99);
            return court.hoarse[witness] == 1 ? weight / 2 : weight;
        }

        int weightOfTestimony(int i) {
            int which = court.ofTestimony(i, Court.ON_FACT) * VALUES + court.ofTestimony(i, Court.WITH_VALUE);
            return weightOf(court.ofTestimony(i, Court.BY), which, court.ofTestimony(i, Court.SLIPS));
        }

        private void setTerms(int witness, int which) {
            terms[NERVE] = court.nerves[witness];
            terms[HOARSE] = court.hoarse[witness];
            terms[BREATH] = told.breath[witness];
            terms[BAR] = 0;
            terms[NOTE] = 0;
            terms[ROOM] = 0;
            terms[FACT] = which / VALUES;
            terms[VALUE] = which % VALUES;
            terms[DAY] = court.day;
            terms[SUNG] = court.sungBy(witness);
            terms[SLIPS] = 0;
        }
    }

    /** What is done at the bench; who asks for a deed has looked whether it can be done. */
    private static final class Deeds {
        private final Bench bench;
        private final Told told;
        private final Court court;

        Deeds(Bench bench) {
            this.bench = bench;
            this.told = bench.told;
            this.court = bench.court;
        }

        boolean canBeCalled(int witness, int fact, int key) {
            int which = bench.motiveOf(witness, fact);
            return bench.canSing(witness, which, key) && court.hasRoom(barsOf(witness, which));
        }

        private int barsOf(int witness, int which) {
            int notes = told.motives.notes[which];
            int breath = told.breath[witness];
            return breath > 0 ? notes + (notes - 1) / breath : notes;
        }

        int sing(int witness, int fact, int key) {
            int which = bench.motiveOf(witness, fact);
            if (which == NONE) {
                return NONE;
            }
            int firstBar = court.bars;
            int slips = singNotes(witness, which, key);
            loseNerve(witness, bench.shakeOf(witness, which));
            court.addTestimony(witness, which, slips, firstBar);
            court.write(CALLED, witness, fact, slips);
            return slips;
        }

        private int singNotes(int witness, int which, int key) {
            int slips = 0;
            int sinceRest = 0;
            int note = key + 1;
            for (int i = 0; i < told.motives.notes[which]; i++) {
                if (sinceRest == told.breath[witness]) {
                    court.addBar(0);
                    sinceRest = 0;
                }
                boolean flat = court.draw(1000) < bench.slipOf(witness, which, i, note);
                court.addBar(flat ? note - 1 : note);
                slips += flat ? 1 : 0;
                sinceRest++;
                note += told.motives.stepOf(which, i);
            }
            return slips;
        }

        void crossExamine(int witness) {
            loseNerve(witness, bench.shakeOf(witness, 0) + 10);
            court.write(CROSSED, witness, NONE, 0);
        }

        private void loseNerve(int witness, int less) {
            court.nerves[witness] = Math.max(0, court.nerves[witness] - less);
        }

        void restOneDay() {
            for (int i = 0; i < told.witnesses; i++) {
                court.nerves[i] = Math.min(MOST_NERVE, court.nerves[i] + 7);
                court.hoarse[i] = court.draw(10) == 0 ? 1 : 0;
            }
            court.write(RESTED, NONE, NONE, 0);
            court.day++;
        }

        int goThrough(Plan plan) {
            int done = 0;
            for (int i = 0; i < plan.howMany && i < Plan.MOST_DEEDS; i++) {
                done++;
                if (plan.kinds[i] == RESTED) {
                    restOneDay();
                } else if (plan.kinds[i] == CROSSED) {
                    crossExamine(plan.who[i]);
                } else if (canBeCalled(plan.who[i], plan.facts[i], plan.inKeys[i])) {
                    sing(plan.who[i], plan.facts[i], plan.inKeys[i]);
                } else {
                    done--;
                }
            }
            return done;
        }
    }

    /** What is asked in thought of notes: of slips, of motives heard, of what sounds together. */
    private static final class Voices {
        private static final int MILLION = 1000000;
        /** Of a motive that fits from no key: more unlike notes than can be asked for. */
        private static final int FITS_FROM_NONE = MOST_SLIPS_ASKED + 1;

        private final Bench bench;
        private final Told told;
        private final Court court;
        /** How likely so many slips are; one place more than a motive has notes, and at least 0 .. 9. */
        private final int[] chances = new int[MOST_SLIPS_ASKED + 1];
        /** Of each note those that sound with it, as bits. */
        private final long[] soundsWith = new long[MOST_NOTE + 1];

        Voices(Bench bench) {
            this.bench = bench;
            this.told = bench.told;
            this.court = bench.court;
        }

        int likelyWithin(int witness, int which, int key, int e) {
            for (int k = 0; k <= MOST_SLIPS_ASKED; k++) {
                chances[k] = 0;
            }
            chances[0] = MILLION;
            int note = key + 1;
            for (int i = 0; i < told.motives.notes[which]; i++) {
                addChance(bench.slipOf(witness, which, i, note));
                note += told.motives.stepOf(which, i);
            }
            int sum = 0;
            for (int k = 0; k <= e && k <= MOST_SLIPS_ASKED; k++) {
                sum += chances[k];
            }
            return sum;
        }

        /** From the most slips downwards, since each place needs the one below it as it was. */
        private void addChance(int slip) {
            for (int k = MOST_SLIPS_ASKED; k > 0; k--) {
                chances[k] = chances[k] * (1000 - slip) / 1000 + chances[k - 1] * slip / 1000;
            }
            chances[0] = chances[0] * (1000 - slip) / 1000;
        }

        int motivesHeard(int e, int what) {
            int howMany = 0;
            int first = NONE;
            int unlikeOfFirst = NONE;
            for (int which = 0; which < MOTIVES; which++) {
                boolean asLong = told.heardNotes > 0 && told.motives.notes[which] == told.heardNotes;
                int unlike = asLong ? fewestUnlike(which) : FITS_FROM_NONE;
                if (unlike <= e) {
                    howMany++;
                    if (first == NONE) {
                        first = which;
                        unlikeOfFirst = unlike;
                    }
                }
            }
            if (what == 0) {
                return howMany;
            }
            return what == 1 ? first : unlikeOfFirst;
        }

        /** From a key from which it leaves the notes a motive does not fit, whatever may be unlike. */
        private int fewestUnlike(int which) {
            int fewest = FITS_FROM_NONE;
            int highest = MOST_NOTE - 1 - told.motives.rise(which);
            for (int key = told.motives.fall(which); key <= highest; key++) {
                fewest = Math.min(fewest, unlikeFrom(which, key));
            }
            return fewest;
        }

        private int unlikeFrom(int which, int key) {
            int unlike = 0;
            int note = key + 1;
            for (int i = 0; i < told.heardNotes && i < MOST_HEARD; i++) {
                if (note != told.heardRow[i]) {
                    unlike++;
                }
                note += told.motives.stepOf(which, i);
            }
            return unlike;
        }

        int soundingBars(int a, int b) {
            int shorter = Math.min(court.ofTestimony(a, Court.HOW_MANY_BARS),
                court.ofTestimony(b, Court.HOW_MANY_BARS));
            int count = 0;
            for (int i = 0; i < shorter; i++) {
                if (told.barsSound(court.barOf(a, i), court.barOf(b, i))) {
                    count++;
                }
            }
            return count;
        }

        int soundingBehind(int testimony, int behind) {
            int count = 0;
            for (int i = behind; i < court.ofTestimony(testimony, Court.HOW_MANY_BARS); i++) {
                if (told.barsSound(court.barOf(testimony, i), court.barOf(testimony, i - behind))) {
                    count++;
                }
            }
            return count;
        }

        int bestKey(int witness, int which, int testimony, int what) {
            int best = NONE;
            int most = NONE;
            int highest = bench.highestKey(witness, which);
            for (int key = bench.lowestKey(witness, which); key <= highest; key++) {
                int count = soundingFrom(which, key, testimony);
                if (count > most) {
                    most = count;
                    best = key;
                }
            }
            return what == 0 ? best : most;
        }

        private int soundingFrom(int which, int key, int testimony) {
            int count = 0;
            int note = key + 1;
            for (int i = 0; i < told.motives.notes[which]; i++) {
                if (told.barsSound(note, court.barOf(testimony, i))) {
                    count++;
                }
                note += told.motives.stepOf(which, i);
            }
            return count;
        }

        int chordOf(int second, int third, int last, int note, int what) {
            tellSounds();
            int howMany = 0;
            int lowest = NONE;
            for (int x = told.low[second]; x <= told.high[second]; x++) {
                long withX = has(soundsWith[note], x) ? soundsWith[note] & soundsWith[x] : 0L;
                for (int y = told.low[third]; y <= told.high[third] && withX != 0L; y++) {
                    long fits = has(withX, y) ? withX & soundsWith[y] & rangeOf(last) : 0L;
                    howMany += Long.bitCount(fits);
                    if (lowest == NONE && fits != 0L) {
                        lowest = chosen(what, x, y, lowestOf(fits));
                    }
                }
            }
            return what == 0 ? howMany : lowest;
        }

        private static int chosen(int what, int x, int y, int z) {
            if (what == 1) {
                return x;
            }
            return what == 2 ? y : z;
        }

        private void tellSounds() {
            for (int a = 1; a <= MOST_NOTE; a++) {
                long row = 0L;
                for (int b = 1; b <= MOST_NOTE; b++) {
                    if (told.sounds(a, b)) {
                        row |= 1L << b;
                    }
                }
                soundsWith[a] = row;
            }
        }

        private long rangeOf(int witness) {
            return (1L << (told.high[witness] + 1)) - (1L << told.low[witness]);
        }

        private static boolean has(long notes, int note) {
            return (notes >> note & 1L) != 0L;
        }

        private static int lowestOf(long notes) {
            for (int note = 1; note <= MOST_NOTE; note++) {
                if (has(notes, note)) {
                    return note;
                }
            }
            return NONE;
        }
    }

    /** What is asked in thought of claims: what is proved, by whom it could be, who agrees, what may be so. */
    private static final class Verdict {
        private final Bench bench;
        private final Told told;
        private final Court court;
        /** Of each value of the fact at hand what is weighed for it. */
        private final int[] weights = new int[VALUES];
        /** Of each witness a number that the call at hand needs. */
        private final int[] ofWitness = new int[MOST_WITNESSES];
        /** Of each fact and value the witnesses whose claim of it is another. */
        private final int[] liars = new int[MOTIVES];
        /** Of each fact and value in how many worlds it is so. */
        private final int[] tallies = new int[MOTIVES];

        Verdict(Bench bench) {
            this.bench = bench;
            this.told = bench.told;
            this.court = bench.court;
        }

        int weightFor(int fact, int value) {
            weighAll(fact);
            return weights[value];
        }

        private void weighAll(int fact) {
            for (int value = 0; value < VALUES; value++) {
                weights[value] = 0;
            }
            for (int i = 0; i < court.testimonies; i++) {
                boolean counts = court.ofTestimony(i, Court.IS_STRUCK) == 0
                    && court.ofTestimony(i, Court.SLIPS) <= told.flats;
                if (counts && court.ofTestimony(i, Court.ON_FACT) == fact) {
                    weights[court.ofTestimony(i, Court.WITH_VALUE)] += bench.weightOfTestimony(i);
                }
            }
        }

        int finding(int fact) {
            weighAll(fact);
            for (int value = 0; value < VALUES; value++) {
                if (missingFor(value) <= 0) {
                    return value;
                }
            }
            return NONE;
        }

        /** What a value that is weighed lacks to be found: what is needed, and more than each other one. */
        private int missingFor(int value) {
            int least = told.need;
            for (int other = 0; other < VALUES; other++) {
                if (other != value) {
                    least = Math.max(least, weights[other] + 1);
                }
            }
            return least - weights[value];
        }

        /** Sets go upwards and only a smaller one is taken, so that of several the least stays. */
        int fewestCallers(int fact, int value) {
            weighAll(fact);
            int missing = missingFor(value);
            int callable = callable(fact, value);
            int best = NONE;
            int fewest = MOST_WITNESSES + 1;
            for (int callers = 0; callers < 1 << told.witnesses; callers++) {
                int size = Integer.bitCount(callers);
                if ((callers & ~callable) == 0 && size < fewest && sumOf(callers) >= missing) {
                    best = callers;
                    fewest = size;
                }
            }
            return best;
        }

        /** Those who could be called for it; of each one what that would add. */
        private int callable(int fact, int value) {
            int all = 0;
            for (int w = 0; w < told.witnesses; w++) {
                int which = bench.motiveOf(w, fact);
                ofWitness[w] = 0;
                if (which == fact * VALUES + value && bench.howManyKeys(w, which) > 0) {
                    ofWitness[w] = bench.weightOf(w, which, 0);
                    all |= 1 << w;
                }
            }
            return all;
        }

        private int sumOf(int group) {
            int sum = 0;
            for (int w = 0; w < told.witnesses; w++) {
                sum += (group >> w & 1) * ofWitness[w];
            }
            return sum;
        }

        int largestChoir() {
            for (int w = 0; w < told.witnesses; w++) {
                ofWitness[w] = opponentsOf(w);
            }
            int best = 0;
            for (int singers = 0; singers < 1 << told.witnesses; singers++) {
                if (Integer.bitCount(singers) > Integer.bitCount(best) && agree(singers)) {
                    best = singers;
                }
            }
            return best;
        }

        private int opponentsOf(int witness) {
            int opponents = 0;
            for (int other = 0; other < told.witnesses; other++) {
                for (int fact = 0; fact < FACTS; fact++) {
                    if (areUnlike(told.claimOf(witness, fact), told.claimOf(other, fact))) {
                        opponents |= 1 << other;
                    }
                }
            }
            return opponents;
        }

        private static boolean areUnlike(int claim, int value) {
            return claim != NONE && value != NONE && claim != value;
        }

        private boolean agree(int singers) {
            for (int w = 0; w < told.witnesses; w++) {
                if ((singers >> w & 1) != 0 && (singers & ofWitness[w]) != 0) {
                    return false;
                }
            }
            return true;
        }

        int worldsWith(int e, int what) {
            tellLiars();
            int howMany = countWorlds(0, 0, e);
            if (what == 0) {
                return howMany;
            }
            return what == 1 ? sureFacts(howMany) : factToAsk(howMany);
        }

        private void tellLiars() {
            for (int which = 0; which < MOTIVES; which++) {
                tallies[which] = 0;
                liars[which] = 0;
                for (int w = 0; w < told.witnesses; w++) {
                    if (areUnlike(told.claimOf(w, which / VALUES), which % VALUES)) {
                        liars[which] |= 1 << w;
                    }
                }
            }
        }

        /** The worlds that go on from the facts below this one, of which some witnesses lied already. */
        private int countWorlds(int fact, int lied, int e) {
            if (Integer.bitCount(lied) > e) {
                return 0;
            }
            if (fact >= FACTS) {
                return 1;
            }
            int sum = 0;
            for (int which = fact * VALUES; which < (fact + 1) * VALUES; which++) {
                int count = countWorlds(fact + 1, lied | liars[which], e);
                tallies[which] += count;
                sum += count;
            }
            return sum;
        }

        private int sureFacts(int howMany) {
            int sure = 0;
            for (int fact = 0; fact < FACTS; fact++) {
                if (mostAlike(fact) == howMany) {
                    sure |= 1 << fact;
                }
            }
            return sure;
        }

        private int factToAsk(int howMany) {
            if (howMany < 2) {
                return NONE;
            }
            int ask = 0;
            for (int fact = 1; fact < FACTS; fact++) {
                if (mostAlike(fact) < mostAlike(ask)) {
                    ask = fact;
                }
            }
            return ask;
        }

        private int mostAlike(int fact) {
            int most = 0;
            for (int value = 0; value < VALUES; value++) {
                most = Math.max(most, tallies[fact * VALUES + value]);
            }
            return most;
        }
    }
}
