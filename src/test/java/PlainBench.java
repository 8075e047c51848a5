import java.util.ArrayDeque;
import java.util.ArrayList;
import java.util.Arrays;
import java.util.HashMap;
import java.util.HashSet;
import java.util.List;
import java.util.Map;
import java.util.Set;
import java.util.function.ToIntFunction;

/**
 * The document a second time, as plainly as the whole library allows and in other ways than the class:
 * lists, maps, trees of functions, each question by trying all. OracleRuns holds the two against each other.
 */
final class PlainBench {
    private static final int NONE = -1;

    static final class Fault extends Exception {
        private static final long serialVersionUID = 1L;
        final int kind;
        final int place;

        Fault(int kind, int place) {
            this.kind = kind;
            this.place = place;
        }
    }

    private record Token(String spelled, int place) {
        boolean isNumber() {
            return spelled.matches("[0-9]{1,4}");
        }

        int number() {
            return Integer.parseInt(spelled);
        }
    }

    private record Line(String word, ToIntFunction<Map<String, Integer>> worth,
                        ToIntFunction<Map<String, Integer>> condition) {
    }

    private record Deed(char kind, int witness, int fact, int key) {
    }

    private static final class Singer {
        int low;
        int high;
        int breath;
        int nerve = 50;
        int hoarse = 0;
        int[] claims = {NONE, NONE, NONE, NONE, NONE, NONE};

        Singer copy() {
            Singer s = new Singer();
            s.low = low;
            s.high = high;
            s.breath = breath;
            s.nerve = nerve;
            s.hoarse = hoarse;
            s.claims = claims.clone();
            return s;
        }
    }

    private static final class Sung {
        int witness;
        int fact;
        int value;
        int slips;
        int first;
        List<Integer> bars = new ArrayList<>();
        boolean struck;

        Sung copy() {
            Sung s = new Sung();
            s.witness = witness;
            s.fact = fact;
            s.value = value;
            s.slips = slips;
            s.first = first;
            s.bars = bars;
            s.struck = struck;
            return s;
        }
    }

    /** All that is, but the tape, the fault and the past. */
    private static final class All {
        int state = 0;
        int day = 0;
        int sound = 0;
        int need = 10;
        int flats = 1;
        List<Singer> singers = new ArrayList<>();
        List<Sung> testimonies = new ArrayList<>();
        List<Integer> record = new ArrayList<>();
        List<int[]> book = new ArrayList<>();
        List<Integer> heard = new ArrayList<>();
        Map<Integer, int[]> motives = new HashMap<>();
        List<Line> law = new ArrayList<>();
        List<Deed> plan = new ArrayList<>();

        All copy() {
            All a = new All();
            a.state = state;
            a.day = day;
            a.sound = sound;
            a.need = need;
            a.flats = flats;
            for (Singer s : singers) {
                a.singers.add(s.copy());
            }
            for (Sung s : testimonies) {
                a.testimonies.add(s.copy());
            }
            a.record.addAll(record);
            a.book.addAll(book);
            a.heard.addAll(heard);
            a.motives.putAll(motives);
            a.law.addAll(law);
            a.plan.addAll(plan);
            return a;
        }
    }

    private All now = new All();
    private All image = null;
    private final ArrayDeque<All> past = new ArrayDeque<>();
    private final List<Integer> tape = new ArrayList<>();
    private int fault = 0;
    private int faultPlace = NONE;

    PlainBench() {
        for (int i : new int[] {0, 3, 4, 5, 7, 8, 9}) {
            now.sound |= 1 << i;
        }
    }

    private void keep() {
        past.addLast(now.copy());
        if (past.size() > 6) {
            past.removeFirst();
        }
    }

    private int draw(int m) {
        now.state = 1664525 * now.state + 1013904223;
        return (int) (((now.state & 0xffffffffL) >> 8) % m);
    }

    private boolean isWitness(int w) {
        return w >= 0 && w < now.singers.size();
    }

    private static boolean in(int v, int a, int b) {
        return a <= v && v <= b;
    }

    int state(int v) {
        int was = now.state;
        now.state = v;
        past.clear();
        return was;
    }

    int witness(int low, int high, int breath) {
        if (!in(low, 1, 60) || !in(high, low, 60) || !in(breath, 1, 9) || now.singers.size() == 8) {
            return NONE;
        }
        Singer s = new Singer();
        s.low = low;
        s.high = high;
        s.breath = breath;
        now.singers.add(s);
        past.clear();
        return now.singers.size() - 1;
    }

    boolean claim(int w, int fact, int value) {
        if (!isWitness(w) || !in(fact, 0, 5) || !in(value, -1, 3)) {
            return false;
        }
        now.singers.get(w).claims[fact] = value;
        past.clear();
        return true;
    }

    boolean set(int what, int who, int v) {
        if (what == 0 && in(v, 0, 4095)) {
            now.sound = v;
        } else if (what == 1 && in(v, 1, 999)) {
            now.need = v;
        } else if (what == 2 && in(v, 0, 9)) {
            now.flats = v;
        } else if (what == 3 && isWitness(who) && in(v, 0, 99)) {
            now.singers.get(who).nerve = v;
        } else if (what == 4 && isWitness(who) && in(v, 0, 1)) {
            now.singers.get(who).hoarse = v;
        } else {
            return false;
        }
        past.clear();
        return true;
    }

    int feed(int... five) {
        if (tape.size() > 380) {
            return NONE;
        }
        for (int n : five) {
            for (int i = 3; i >= 0; i--) {
                tape.add(n >> (8 * i) & 255);
            }
        }
        return tape.size();
    }

    boolean end(int n) {
        if (n < 0 || n > tape.size()) {
            return false;
        }
        tape.subList(n, tape.size()).clear();
        return true;
    }

    int text(int k) {
        fault = 0;
        faultPlace = NONE;
        StringBuilder text = new StringBuilder();
        for (int b : tape) {
            text.append((char) b);
        }
        tape.clear();
        if (!in(k, 0, 2)) {
            return NONE;
        }
        try {
            Reader reader = new Reader(text.toString());
            if (k == 0) {
                now.motives = reader.motives();
                past.clear();
                return now.motives.size();
            }
            if (k == 1) {
                now.law = reader.law();
                return now.law.size();
            }
            now.plan = reader.plan(now.singers.size());
            past.clear();
            return now.plan.size();
        } catch (Fault f) {
            fault = f.kind;
            faultPlace = f.place;
            return NONE;
        }
    }

    int fault(int what) {
        return what == 0 ? fault : what == 1 ? faultPlace : NONE;
    }

    private static final class Reader {
        private final String text;
        private int at = 0;
        private int open = 0;

        Reader(String text) {
            this.text = text;
        }

        private Token peek() {
            int i = at;
            while (i < text.length() && (text.charAt(i) == ' ' || text.charAt(i) == '\n')) {
                i++;
            }
            if (i == text.length()) {
                return new Token("", i);
            }
            int j = i + 1;
            for (String sort : new String[] {"[A-Za-z]", "[0-9]"}) {
                if (text.substring(i, i + 1).matches(sort)) {
                    while (j < text.length() && text.substring(j, j + 1).matches(sort)) {
                        j++;
                    }
                }
            }
            return new Token(text.substring(i, j), i);
        }

        private Token next() {
            Token t = peek();
            at = t.place + t.spelled.length();
            return t;
        }

        private boolean sees(String... spelled) {
            return Arrays.asList(spelled).contains(peek().spelled);
        }

        private Token take(String... spelled) throws Fault {
            if (!sees(spelled)) {
                throw new Fault(1, peek().place);
            }
            return next();
        }

        private int number(int least, int most) throws Fault {
            Token t = peek();
            if (!t.isNumber()) {
                throw new Fault(1, t.place);
            }
            if (t.number() < least || t.number() > most) {
                throw new Fault(2, t.place);
            }
            return next().number();
        }

        Map<Integer, int[]> motives() throws Fault {
            Map<Integer, int[]> all = new HashMap<>();
            while (!sees("")) {
                Token motive = take("motive");
                if (all.size() == 16) {
                    throw new Fault(3, motive.place);
                }
                int fact = number(0, 5);
                int place = peek().place;
                int value = number(0, 3);
                if (all.containsKey(fact * 4 + value)) {
                    throw new Fault(2, place);
                }
                List<Integer> steps = new ArrayList<>();
                while (!sees(";")) {
                    Token t = take("up", "down", "same");
                    if (steps.size() == 7) {
                        throw new Fault(3, t.place);
                    }
                    int sign = t.spelled.equals("up") ? 1 : -1;
                    steps.add(t.spelled.equals("same") ? 0 : sign * number(1, 24));
                }
                take(";");
                all.put(fact * 4 + value, steps.stream().mapToInt(i -> i).toArray());
            }
            return all;
        }

        List<Line> law() throws Fault {
            List<Line> all = new ArrayList<>();
            while (!sees("")) {
                Token word = take("slip", "shake", "weight");
                if (all.size() == 16) {
                    throw new Fault(3, word.place);
                }
                ToIntFunction<Map<String, Integer>> worth = sum();
                ToIntFunction<Map<String, Integer>> condition = m -> 1;
                if (sees("when")) {
                    next();
                    condition = either();
                }
                take(";");
                all.add(new Line(word.spelled, worth, condition));
            }
            return all;
        }

        private ToIntFunction<Map<String, Integer>> either() throws Fault {
            ToIntFunction<Map<String, Integer>> left = both();
            while (sees("or")) {
                next();
                ToIntFunction<Map<String, Integer>> a = left;
                ToIntFunction<Map<String, Integer>> b = both();
                left = m -> a.applyAsInt(m) + b.applyAsInt(m) > 0 ? 1 : 0;
            }
            return left;
        }

        private ToIntFunction<Map<String, Integer>> both() throws Fault {
            ToIntFunction<Map<String, Integer>> left = test();
            while (sees("and")) {
                next();
                ToIntFunction<Map<String, Integer>> a = left;
                ToIntFunction<Map<String, Integer>> b = test();
                left = m -> a.applyAsInt(m) * b.applyAsInt(m);
            }
            return left;
        }

        private ToIntFunction<Map<String, Integer>> test() throws Fault {
            if (sees("not", "(")) {
                Token t = next();
                open++;
                if (open == 9) {
                    throw new Fault(3, t.place);
                }
                ToIntFunction<Map<String, Integer>> inner;
                if (t.spelled.equals("not")) {
                    ToIntFunction<Map<String, Integer>> c = test();
                    inner = m -> 1 - c.applyAsInt(m);
                } else {
                    inner = either();
                    take(")");
                }
                open--;
                return inner;
            }
            ToIntFunction<Map<String, Integer>> a = sum();
            String sign = take("<", "=", ">").spelled;
            ToIntFunction<Map<String, Integer>> b = sum();
            return m -> {
                int c = Integer.compare(a.applyAsInt(m), b.applyAsInt(m));
                return (sign.equals("<") ? c < 0 : sign.equals("=") ? c == 0 : c > 0) ? 1 : 0;
            };
        }

        private ToIntFunction<Map<String, Integer>> sum() throws Fault {
            ToIntFunction<Map<String, Integer>> left = product();
            while (sees("+", "-")) {
                int sign = next().spelled.equals("+") ? 1 : -1;
                ToIntFunction<Map<String, Integer>> a = left;
                ToIntFunction<Map<String, Integer>> b = product();
                left = m -> a.applyAsInt(m) + sign * b.applyAsInt(m);
            }
            return left;
        }

        private ToIntFunction<Map<String, Integer>> product() throws Fault {
            ToIntFunction<Map<String, Integer>> left = unit();
            while (sees("*", "/")) {
                ToIntFunction<Map<String, Integer>> a = left;
                if (next().spelled.equals("*")) {
                    ToIntFunction<Map<String, Integer>> b = unit();
                    left = m -> a.applyAsInt(m) * b.applyAsInt(m);
                } else {
                    int by = number(1, 9999);
                    left = m -> a.applyAsInt(m) / by;
                }
            }
            return left;
        }

        private ToIntFunction<Map<String, Integer>> unit() throws Fault {
            if (peek().isNumber()) {
                int n = next().number();
                return m -> n;
            }
            String term = take("nerve", "hoarse", "breath", "bar", "note", "room", "fact", "value", "day", "sung",
                "slips").spelled;
            return m -> m.getOrDefault(term, 0);
        }

        List<Deed> plan(int witnesses) throws Fault {
            List<Deed> all = new ArrayList<>();
            long[] count = {0};
            deeds(witnesses, all, count, 0);
            if (count[0] > 60) {
                throw new Fault(4, text.length());
            }
            return all;
        }

        private void deeds(int witnesses, List<Deed> all, long[] count, int depth) throws Fault {
            while (!sees(depth > 0 ? ")" : "")) {
                Token t = take("call", "cross", "rest", "again");
                if (t.spelled.equals("rest")) {
                    all.add(new Deed('r', 0, 0, 0));
                    count[0]++;
                } else if (t.spelled.equals("cross")) {
                    all.add(new Deed('x', number(0, witnesses - 1), 0, 0));
                    count[0]++;
                } else if (t.spelled.equals("call")) {
                    int w = number(0, witnesses - 1);
                    take("on");
                    int fact = number(0, 5);
                    take("in");
                    all.add(new Deed('c', w, fact, number(0, 59)));
                    count[0]++;
                } else {
                    if (depth == 4) {
                        throw new Fault(3, t.place);
                    }
                    int times = number(1, 9);
                    take("(");
                    List<Deed> inner = new ArrayList<>();
                    long[] innerCount = {0};
                    deeds(witnesses, inner, innerCount, depth + 1);
                    take(")");
                    count[0] += times * innerCount[0];
                    for (int i = 0; i < times && all.size() < 100; i++) {
                        all.addAll(inner);
                    }
                }
            }
        }
    }

    private int told(String word, int w, int fact, int value, Map<String, Integer> more, int otherwise, int most) {
        Singer s = now.singers.get(w);
        Map<String, Integer> m = new HashMap<>(more);
        m.put("nerve", s.nerve);
        m.put("hoarse", s.hoarse);
        m.put("breath", s.breath);
        m.put("fact", fact);
        m.put("value", value);
        m.put("day", now.day);
        m.put("sung", sung(w));
        int v = otherwise;
        for (Line line : now.law) {
            if (line.word.equals(word) && line.condition.applyAsInt(m) != 0) {
                v = line.worth.applyAsInt(m);
                break;
            }
        }
        return v < 0 ? 0 : v > most ? most : v;
    }

    private int sung(int w) {
        return (int) now.testimonies.stream().filter(t -> t.witness == w).count();
    }

    private int slip(int w, int fact, int value, int bar, int note) {
        Map<String, Integer> more = Map.of("bar", bar, "note", note, "room", now.singers.get(w).high - note);
        return told("slip", w, fact, value, more, 99 - now.singers.get(w).nerve, 1000);
    }

    private int shake(int w, int fact, int value) {
        return told("shake", w, fact, value, Map.of(), 5, 99);
    }

    private int weight(int w, int fact, int value, int slips) {
        int v = told("weight", w, fact, value, Map.of("slips", slips), 4 - slips, 99);
        return now.singers.get(w).hoarse == 1 ? v / 2 : v;
    }

    /** The notes from a key, whether they can be sung or not; null without a motive. */
    private int[] notesFrom(int motive, int key) {
        int[] steps = now.motives.get(motive);
        if (steps == null) {
            return null;
        }
        int[] notes = new int[steps.length + 1];
        notes[0] = key + 1;
        for (int i = 0; i < steps.length; i++) {
            notes[i + 1] = notes[i] + steps[i];
        }
        return notes;
    }

    /** The melody of a witness's claim if it can be sung; else null. */
    private int[] melody(int w, int fact, int key) {
        if (!isWitness(w) || !in(fact, 0, 5) || !in(key, 0, 59) || now.singers.get(w).claims[fact] == NONE) {
            return null;
        }
        int[] notes = notesFrom(fact * 4 + now.singers.get(w).claims[fact], key);
        if (notes == null) {
            return null;
        }
        for (int n : notes) {
            if (n < now.singers.get(w).low || n > now.singers.get(w).high) {
                return null;
            }
        }
        return notes;
    }

    private void line(int what, int who, int fact, int slips) {
        if (now.book.size() < 120) {
            now.book.add(new int[] {now.day, what, who, fact, slips});
        }
    }

    private int doCall(int w, int fact, int key, boolean keeping) {
        int[] notes = melody(w, fact, key);
        if (notes == null || now.testimonies.size() >= 20) {
            return NONE;
        }
        int bars = notes.length;
        for (int i = 1; i < notes.length; i++) {
            if (i % now.singers.get(w).breath == 0) {
                bars++;
            }
        }
        if (now.record.size() + bars > 200) {
            return NONE;
        }
        if (keeping) {
            keep();
        }
        Sung t = new Sung();
        t.witness = w;
        t.fact = fact;
        t.value = now.singers.get(w).claims[fact];
        t.first = now.record.size();
        for (int i = 0; i < notes.length; i++) {
            if (i > 0 && i % now.singers.get(w).breath == 0) {
                t.bars.add(0);
            }
            int slip = slip(w, fact, t.value, i, notes[i]);
            if (draw(1000) < slip) {
                t.slips++;
                t.bars.add(notes[i] - 1);
            } else {
                t.bars.add(notes[i]);
            }
        }
        now.record.addAll(t.bars);
        Singer s = now.singers.get(w);
        s.nerve = Math.max(0, s.nerve - shake(w, fact, t.value));
        now.testimonies.add(t);
        line(0, w, fact, t.slips);
        return t.slips;
    }

    private void doCross(int w) {
        Singer s = now.singers.get(w);
        s.nerve = Math.max(0, s.nerve - shake(w, 0, 0) - 10);
        line(1, w, NONE, 0);
    }

    private void doRest() {
        for (Singer s : now.singers) {
            s.nerve = Math.min(99, s.nerve + 7);
        }
        for (Singer s : now.singers) {
            s.hoarse = draw(10) == 0 ? 1 : 0;
        }
        line(3, NONE, NONE, 0);
        now.day++;
    }

    int call(int w, int fact, int key) {
        return doCall(w, fact, key, true);
    }

    int cross(int w) {
        if (!isWitness(w)) {
            return NONE;
        }
        keep();
        doCross(w);
        return now.singers.get(w).nerve;
    }

    private Sung testimonyAt(int i) {
        return i < 0 || i >= now.testimonies.size() ? null : now.testimonies.get(i);
    }

    boolean strike(int i) {
        if (testimonyAt(i) == null || testimonyAt(i).struck) {
            return false;
        }
        keep();
        testimonyAt(i).struck = true;
        line(2, i, NONE, 0);
        return true;
    }

    int days(int n) {
        if (!in(n, 1, 30) || now.day + n > 999) {
            return NONE;
        }
        for (int i = 0; i < n; i++) {
            keep();
            doRest();
        }
        return (int) now.singers.stream().filter(s -> s.hoarse == 1).count();
    }

    int trial() {
        long rests = now.plan.stream().filter(d -> d.kind == 'r').count();
        if (now.day + rests > 999) {
            return NONE;
        }
        keep();
        int done = 0;
        for (Deed d : now.plan) {
            if (d.kind == 'r') {
                doRest();
            } else if (d.kind == 'x') {
                doCross(d.witness);
            } else if (doCall(d.witness, d.fact, d.key, false) == NONE) {
                continue;
            }
            done++;
        }
        return done;
    }

    int of(int w, int what) {
        if (!isWitness(w)) {
            return -2;
        }
        Singer s = now.singers.get(w);
        if (in(what, 10, 15)) {
            return s.claims[what - 10];
        }
        if (!in(what, 0, 6)) {
            return -2;
        }
        return new int[] {s.low, s.high, s.breath, s.nerve, s.hoarse, sung(w), shake(w, 0, 0)}[what];
    }

    int testimony(int i, int what) {
        Sung t = testimonyAt(i);
        if (t == null || !in(what, 0, 7)) {
            return NONE;
        }
        return new int[] {t.witness, t.fact, t.value, t.slips, t.first, t.bars.size(), t.struck ? 1 : 0,
            weight(t.witness, t.fact, t.value, t.slips)}[what];
    }

    int bar(int i) {
        return i < 0 || i >= now.record.size() ? NONE : now.record.get(i);
    }

    int motive(int which, int what) {
        if (!in(which, 0, 23) || what < 0) {
            return -100;
        }
        int[] steps = now.motives.get(which);
        if (what == 0) {
            return steps == null ? 0 : steps.length + 1;
        }
        return steps == null || what > steps.length ? -100 : steps[what - 1];
    }

    int book(int i, int what) {
        return i < 0 || i >= now.book.size() || !in(what, 0, 4) ? -2 : now.book.get(i)[what];
    }

    private List<Integer> keyList(int w, int fact) {
        List<Integer> all = new ArrayList<>();
        for (int key = 0; key < 60; key++) {
            if (melody(w, fact, key) != null) {
                all.add(key);
            }
        }
        return all;
    }

    private boolean hasMotive(int w, int fact) {
        return isWitness(w) && in(fact, 0, 5) && now.singers.get(w).claims[fact] != NONE
            && now.motives.containsKey(fact * 4 + now.singers.get(w).claims[fact]);
    }

    int keys(int w, int fact, int what) {
        if (!hasMotive(w, fact) || !in(what, 0, 2)) {
            return NONE;
        }
        List<Integer> all = keyList(w, fact);
        if (what == 0) {
            return all.size();
        }
        return all.isEmpty() ? NONE : what == 1 ? all.get(0) : all.get(all.size() - 1);
    }

    int fair(int w, int fact, int key, int e) {
        int[] notes = melody(w, fact, key);
        if (notes == null || !in(e, 0, 9)) {
            return NONE;
        }
        long[] c = new long[20];
        c[0] = 1000000;
        for (int i = 0; i < notes.length; i++) {
            long slip = slip(w, fact, now.singers.get(w).claims[fact], i, notes[i]);
            long[] next = new long[20];
            for (int k = 0; k < 20; k++) {
                next[k] = c[k] * (1000 - slip) / 1000 + (k > 0 ? c[k - 1] * slip / 1000 : 0);
            }
            c = next;
        }
        return (int) Arrays.stream(c, 0, e + 1).sum();
    }

    int heard(int note) {
        if (note == 0) {
            now.heard.clear();
        } else if (!in(note, 1, 60) || now.heard.size() == 12) {
            return NONE;
        } else {
            now.heard.add(note);
        }
        return now.heard.size();
    }

    int read(int e, int what) {
        if (!in(e, 0, 9) || !in(what, 0, 2)) {
            return NONE;
        }
        List<int[]> fits = new ArrayList<>();
        for (int m = 0; m < 24; m++) {
            int least = 99;
            for (int key = 0; key < 60 && now.motives.containsKey(m); key++) {
                int[] notes = notesFrom(m, key);
                if (notes.length == now.heard.size()) {
                    int unlike = 0;
                    for (int i = 0; i < notes.length; i++) {
                        unlike += notes[i] == now.heard.get(i) ? 0 : 1;
                        unlike += in(notes[i], 1, 60) ? 0 : 99;
                    }
                    least = Math.min(least, unlike);
                }
            }
            if (least <= e) {
                fits.add(new int[] {m, least});
            }
        }
        if (what == 0) {
            return fits.size();
        }
        return fits.isEmpty() ? NONE : fits.get(0)[what - 1];
    }

    private boolean sound(int a, int b) {
        int far = a > b ? a - b : b - a;
        return (now.sound & 1 << far % 12) != 0;
    }

    private int together(List<Integer> a, List<Integer> b) {
        int count = 0;
        for (int i = 0; i < a.size() && i < b.size(); i++) {
            if (a.get(i) > 0 && b.get(i) > 0 && sound(a.get(i), b.get(i))) {
                count++;
            }
        }
        return count;
    }

    int duet(int a, int b) {
        if (testimonyAt(a) == null || testimonyAt(b) == null) {
            return NONE;
        }
        return together(testimonyAt(a).bars, testimonyAt(b).bars);
    }

    int best(int w, int fact, int t, int what) {
        if (testimonyAt(t) == null || !in(what, 0, 1)) {
            return NONE;
        }
        int[] best = {NONE, NONE};
        for (int key = 0; key < 60; key++) {
            int[] notes = melody(w, fact, key);
            if (notes != null) {
                int count = together(Arrays.stream(notes).boxed().toList(), testimonyAt(t).bars);
                if (count > best[1]) {
                    best = new int[] {key, count};
                }
            }
        }
        return best[what];
    }

    int canon(int t, int d) {
        if (testimonyAt(t) == null || !in(d, 1, 30)) {
            return NONE;
        }
        List<Integer> bars = testimonyAt(t).bars;
        return d >= bars.size() ? 0 : together(bars, bars.subList(d, bars.size()));
    }

    int weighed(int fact, int value) {
        if (!in(fact, 0, 5) || !in(value, 0, 3)) {
            return NONE;
        }
        int sum = 0;
        for (Sung t : now.testimonies) {
            if (t.fact == fact && t.value == value && !t.struck && t.slips <= now.flats) {
                sum += weight(t.witness, fact, value, t.slips);
            }
        }
        return sum;
    }

    private boolean isFound(int fact, int value, int more) {
        int mine = weighed(fact, value) + more;
        for (int v = 0; v < 4; v++) {
            if (v != value && weighed(fact, v) >= mine) {
                return false;
            }
        }
        return mine >= now.need;
    }

    int found(int fact) {
        for (int v = 0; v < 4 && in(fact, 0, 5); v++) {
            if (isFound(fact, v, 0)) {
                return v;
            }
        }
        return NONE;
    }

    int calls(int fact, int value, int what) {
        if (!in(fact, 0, 5) || !in(value, 0, 3) || !in(what, 0, 1)) {
            return NONE;
        }
        for (int size = 0; size <= now.singers.size(); size++) {
            for (int set = 0; set < 1 << now.singers.size(); set++) {
                int more = Integer.bitCount(set) == size ? wouldAdd(set, fact, value) : NONE;
                if (more != NONE && isFound(fact, value, more)) {
                    return what == 0 ? size : set;
                }
            }
        }
        return NONE;
    }

    private int wouldAdd(int set, int fact, int value) {
        int more = 0;
        for (int w = 0; w < now.singers.size(); w++) {
            if ((set & 1 << w) != 0) {
                if (now.singers.get(w).claims[fact] != value || keyList(w, fact).isEmpty()) {
                    return NONE;
                }
                more += weight(w, fact, value, 0);
            }
        }
        return more;
    }

    int choir(int what) {
        int n = now.singers.size();
        for (int size = n; size >= 0; size--) {
            for (int set = 0; set < 1 << n; set++) {
                if (Integer.bitCount(set) == size && agrees(set)) {
                    return what == 0 ? size : what == 1 ? set : NONE;
                }
            }
        }
        return NONE;
    }

    private boolean agrees(int set) {
        for (int fact = 0; fact < 6; fact++) {
            Set<Integer> told = new HashSet<>();
            for (int w = 0; w < now.singers.size(); w++) {
                if ((set & 1 << w) != 0 && now.singers.get(w).claims[fact] != NONE) {
                    told.add(now.singers.get(w).claims[fact]);
                }
            }
            if (told.size() > 1) {
                return false;
            }
        }
        return true;
    }

    int worlds(int e, int what) {
        if (!in(e, 0, 8) || !in(what, 0, 2)) {
            return NONE;
        }
        int count = 0;
        int[][] with = new int[6][4];
        for (int world = 0; world < 4096; world++) {
            int liars = 0;
            for (Singer s : now.singers) {
                boolean lies = false;
                for (int fact = 0; fact < 6; fact++) {
                    lies |= s.claims[fact] != NONE && s.claims[fact] != (world >> 2 * fact & 3);
                }
                liars += lies ? 1 : 0;
            }
            if (liars <= e) {
                count++;
                for (int fact = 0; fact < 6; fact++) {
                    with[fact][world >> 2 * fact & 3]++;
                }
            }
        }
        int sure = 0;
        int ask = NONE;
        int fewest = Integer.MAX_VALUE;
        for (int fact = 0; fact < 6; fact++) {
            int most = Arrays.stream(with[fact]).max().getAsInt();
            if (most == count) {
                sure |= 1 << fact;
            }
            if (most < fewest) {
                fewest = most;
                ask = fact;
            }
        }
        return what == 0 ? count : what == 1 ? sure : count < 2 ? NONE : ask;
    }

    int chord(int a, int b, int c, int d, int note, int what) {
        Set<Integer> four = new HashSet<>(Arrays.asList(a, b, c, d));
        if (four.size() < 4 || !four.stream().allMatch(this::isWitness) || !in(what, 0, 3)) {
            return NONE;
        }
        if (!in(note, now.singers.get(a).low, now.singers.get(a).high)) {
            return NONE;
        }
        int count = 0;
        int[] lowest = {NONE, NONE, NONE, NONE};
        Singer sb = now.singers.get(b);
        Singer sc = now.singers.get(c);
        Singer sd = now.singers.get(d);
        for (int x = sb.low; x <= sb.high; x++) {
            for (int y = sc.low; y <= sc.high && sound(note, x); y++) {
                for (int z = sd.low; z <= sd.high && sound(note, y) && sound(x, y); z++) {
                    if (sound(note, z) && sound(x, z) && sound(y, z)) {
                        count++;
                        if (count == 1) {
                            lowest = new int[] {0, x, y, z};
                        }
                    }
                }
            }
        }
        return what == 0 ? count : lowest[what];
    }

    boolean undo() {
        if (past.isEmpty()) {
            return false;
        }
        All then = past.removeLast();
        then.law = now.law;
        then.heard = now.heard;
        now = then;
        return true;
    }

    boolean image(boolean taken) {
        if (taken) {
            image = now.copy();
            return true;
        }
        if (image == null) {
            return false;
        }
        now = image.copy();
        past.clear();
        return true;
    }

    int look(int what) {
        switch (what) {
            case 0: return now.singers.size();
            case 1: return now.day;
            case 2: return now.testimonies.size();
            case 3: return now.record.size();
            case 4: return now.book.size();
            case 5: return now.state;
            case 6: return now.motives.size();
            case 7: return now.law.size();
            case 8: return now.plan.size();
            case 9: return now.heard.size();
            case 10: return past.size();
            case 11: return now.sound;
            case 12: return now.need;
            case 13: return now.flats;
            default: return NONE;
        }
    }
}
