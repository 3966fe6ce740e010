import java.util.ArrayList;
import java.util.Arrays;
import java.util.List;

/**
 * The document once more, written for clearness alone and in another way than the class: sayings are objects of
 * classes under one another, all is copied afresh, texts are worked out from their words each time.
 */
final class Model {
    static final int BAD = -1000000001, NO = -1000000002, FULL = -1000000003, NONE = -1000000005,
            NOTHING = -1000000011, KIND = -1000000012, INDEX = -1000000013, SIZE = -1000000014;

    static class Saying {
        int wit, dust, corner, turned;

        int kind() { return 0; }
        int gathers(State s) { return s.plain(this); }
        int draws(State s) { return wit / 10 - dust / 10; }
        int worth() { return wit > dust ? wit - dust : 0; }

        static Saying of(int kind) {
            switch (kind) {
                case 0: return new Saying();
                case 1: return new Quip();
                case 2: return new Sermon();
                case 3: return new Sally();
                case 4: return new Drone();
                default: return new Remark();
            }
        }

        Saying as(int kind) {
            Saying other = of(kind);
            other.wit = wit;
            other.dust = dust;
            other.corner = corner;
            other.turned = turned;
            return other;
        }

        Saying copy() { return as(kind()); }

        boolean isOf(int kind) {
            Class<?>[] classes = {Saying.class, Quip.class, Sermon.class, Sally.class, Drone.class, Remark.class};
            return classes[kind].isInstance(this);
        }
    }

    static class Quip extends Saying {
        @Override int kind() { return 1; }
        @Override int gathers(State s) {
            int g = super.gathers(s);
            for (Saying o : s.sayings) {
                if (o != this && o instanceof Quip && o.corner == corner) {
                    g -= 2;
                }
            }
            return g < 0 ? 0 : g;
        }
        @Override int draws(State s) { return super.draws(s) + 1; }
        @Override int worth() { return super.worth() + 5; }
    }

    static class Sally extends Quip {
        @Override int kind() { return 3; }
        @Override int gathers(State s) { return wit > 80 ? 0 : super.gathers(s); }
        @Override int draws(State s) { return 2 * super.draws(s); }
        @Override int worth() { return 2 * super.worth(); }
    }

    static class Sermon extends Saying {
        @Override int kind() { return 2; }
        @Override int gathers(State s) { return super.gathers(s) + 2; }
        @Override int draws(State s) { return super.draws(s) - 2; }
        @Override int worth() { return 99 - super.worth(); }
    }

    static class Drone extends Sermon {
        @Override int kind() { return 4; }
        @Override int gathers(State s) { return 2 * super.gathers(s); }
        @Override int draws(State s) {
            int d = super.draws(s);
            for (Saying o : s.sayings) {
                if (o != this && o instanceof Sermon && o.corner == corner) {
                    d--;
                }
            }
            return d;
        }
        @Override int worth() { return super.worth() / 2; }
    }

    static class Remark extends Saying {
        @Override int kind() { return 5; }
        @Override int gathers(State s) { return 1; }
        @Override int draws(State s) { return 0; }
        @Override int worth() { return dust; }
    }

    static final class State {
        List<Saying> sayings = new ArrayList<>();
        int[] heed = {50, 50, 50, 50, 50, 50};
        int kicks, dusted, found, evening, z = 1;
        List<Law> laws = new ArrayList<>();

        State copy() {
            State s = new State();
            for (Saying o : sayings) {
                s.sayings.add(o.copy());
            }
            s.heed = heed.clone();
            s.kicks = kicks;
            s.dusted = dusted;
            s.found = found;
            s.evening = evening;
            s.z = z;
            s.laws = new ArrayList<>(laws);
            return s;
        }

        int draw() {
            z = z * 1103515245 + 12345;
            return z >>> 8;
        }

        int why(int key) {
            int w = NONE;
            for (int i = 0; i < laws.size(); i++) {
                if (laws.get(i).key == key) {
                    w = i;
                }
            }
            return w;
        }

        int plain(Saying o) {
            int w = why(0);
            if (w == NONE) {
                return (99 - heed[o.corner]) / 10;
            }
            int n = 0;
            for (Saying p : sayings) {
                if (p.corner == o.corner) {
                    n++;
                }
            }
            return Math.max(0, Math.min(99, laws.get(w).value("wdhn", o.wit, o.dust, heed[o.corner], n)));
        }

        void goOver(Saying o) {
            if (o.dust > 0) {
                o.dust = 0;
                o.turned++;
                dusted++;
            }
        }

        int drawn(int corner) {
            int sum = 0;
            for (Saying o : sayings) {
                if (o.corner == corner && o.dust != 99) {
                    sum += o.draws(this);
                }
            }
            return sum;
        }

        void anEvening() {
            List<Saying> inCorner = new ArrayList<>();
            List<Saying> clergy = new ArrayList<>();
            for (Saying o : sayings) {
                if (o.corner == evening % 6) {
                    inCorner.add(o);
                    if (o instanceof Sermon) {
                        clergy.add(o);
                    }
                }
            }
            List<Saying> among = clergy.isEmpty() ? inCorner : clergy;
            Saying most = null;
            for (Saying o : among) {
                if (most == null || o.dust > most.dust) {
                    most = o;
                }
            }
            if (most != null) {
                goOver(most);
            }
            for (Saying o : sayings) {
                o.dust = Math.min(99, o.dust + o.gathers(this));
            }
            for (int c = 0; c < 6; c++) {
                heed[c] = Math.max(0, Math.min(99, heed[c] + drawn(c)));
            }
            if (draw() % 100 < kicks && sayings.size() > 0) {
                Saying o = sayings.get(draw() % sayings.size());
                int c = draw() % 6;
                if (o.dust == 99) {
                    o.corner = c;
                    o.dust = 0;
                    found++;
                }
            }
            evening++;
        }

        State after(int n) {
            State s = copy();
            for (int i = 0; i < n; i++) {
                s.anEvening();
            }
            return s;
        }

        int buriedSet() {
            int set = 0;
            for (int i = 0; i < sayings.size(); i++) {
                if (sayings.get(i).dust == 99) {
                    set |= 1 << i;
                }
            }
            return set;
        }

        int allDust() {
            int sum = 0;
            for (Saying o : sayings) {
                sum += o.dust;
            }
            return sum;
        }
    }

    /** A text as its words; reading is a walk from word to word, value splits at the loosest sign. */
    static final class Law {
        static final List<String> KEYS = List.of("bloom", "fee", "fine");
        static final String[] NAMES = {"wdhn", "df", "wd"};
        static final String[] SIGNS = {"|", "&", "<=>", "+-", "*/"};
        int key;
        List<String> words = new ArrayList<>();

        static boolean isWord(String s) {
            char c = s.charAt(0);
            return c >= 'a' && c <= 'z' || c >= '0' && c <= '9';
        }

        static int sort(char c) {
            return c >= 'a' && c <= 'z' ? 1 : c >= '0' && c <= '9' ? 2 : 0;
        }

        /** -1 if the tape is a text, else the place of its fault. */
        int read(String tape) {
            List<int[]> open = new ArrayList<>();
            open.add(new int[2]); // of each open bracket: nots that wait, whether its test is used
            int want = 0; // 0 a key, 1 a piece, 2 a sign
            int at = 0;
            int wordEnd = -1;
            while (true) {
                while (at < tape.length() && tape.charAt(at) == ' ') {
                    at++;
                }
                if (at == tape.length()) {
                    return want == 2 && open.size() == 1 ? -1 : at;
                }
                int end = at + 1;
                int sort = sort(tape.charAt(at));
                while (sort != 0 && end < tape.length() && sort(tape.charAt(end)) == sort) {
                    end++;
                }
                String word = tape.substring(at, end);
                if (sort != 0 && wordEnd == at) {
                    return at;
                }
                if (sort != 0) {
                    wordEnd = end;
                }
                if (want == 0) {
                    key = KEYS.indexOf(word);
                    if (key < 0) {
                        return at;
                    }
                    want = 1;
                } else {
                    want = step(word, sort, want, open);
                    if (want < 0) {
                        return at;
                    }
                    words.add(word);
                }
                at = end;
            }
        }

        private int step(String word, int sort, int want, List<int[]> open) {
            int[] frame = open.get(open.size() - 1);
            if (want == 1) {
                if (sort == 2 && word.length() <= 4 || sort == 1 && word.length() == 1 && NAMES[key].contains(word)) {
                    frame[0] = 0;
                    return 2;
                }
                int nots = 0;
                for (int[] f : open) {
                    nots += f[0];
                }
                if (word.equals("!") && nots < 8) {
                    frame[0]++;
                    return 1;
                }
                if (word.equals("(") && open.size() <= 8) {
                    open.add(new int[2]);
                    return 1;
                }
                return -1;
            }
            if (word.equals(")") && open.size() > 1) {
                open.remove(open.size() - 1);
                open.get(open.size() - 1)[0] = 0;
                return 2;
            }
            if ("|&".contains(word)) {
                frame[1] = 0;
                return 1;
            }
            if ("<=>".contains(word) && frame[1] == 0) {
                frame[1] = 1;
                return 1;
            }
            return "+-*/".contains(word) ? 1 : -1;
        }

        int leaves() {
            int many = 0;
            for (String w : words) {
                if (isWord(w)) {
                    many++;
                }
            }
            return many;
        }

        int value(String names, int... values) {
            return value(words, names, values);
        }

        private static int value(List<String> w, String names, int[] values) {
            for (String signs : SIGNS) {
                int depth = 0;
                for (int i = w.size() - 1; i >= 0; i--) {
                    String s = w.get(i);
                    depth += s.equals(")") ? 1 : s.equals("(") ? -1 : 0;
                    if (depth == 0 && i > 0 && signs.contains(s)) {
                        int a = value(w.subList(0, i), names, values);
                        int b = value(w.subList(i + 1, w.size()), names, values);
                        return joined(s.charAt(0), a, b);
                    }
                }
            }
            String first = w.get(0);
            if (first.equals("!")) {
                return value(w.subList(1, w.size()), names, values) == 0 ? 1 : 0;
            }
            if (first.equals("(")) {
                return value(w.subList(1, w.size() - 1), names, values);
            }
            int name = names.indexOf(first);
            return name >= 0 ? values[name] : Integer.parseInt(first);
        }

        private static int joined(char sign, int a, int b) {
            switch (sign) {
                case '|': return (a != 0 ? 1 : 0) | (b != 0 ? 1 : 0);
                case '&': return (a != 0 ? 1 : 0) & (b != 0 ? 1 : 0);
                case '<': return a < b ? 1 : 0;
                case '=': return a == b ? 1 : 0;
                case '>': return a > b ? 1 : 0;
                case '+': return a + b;
                case '-': return a - b;
                case '*': return a * b;
                default: return b == 0 ? 0 : a / b;
            }
        }
    }

    State now = new State();
    State image;
    String tape = "";
    List<Integer> waiting = new ArrayList<>();
    Object[] sheets = new Object[4]; // short[], Float[] (null: no number), or null
    Object[] slots = new Object[5]; // Saying, short[], Float[], Integer, or null

    private boolean out(int v, int least, int most) {
        return v < least || v > most;
    }

    private boolean noSaying(int saying) {
        return out(saying, 0, now.sayings.size() - 1);
    }

    int saying(int kind, int wit, int corner) {
        if (out(kind, 0, 5) || out(wit, 0, 99) || out(corner, 0, 5)) return BAD;
        if (now.sayings.size() == 10) return FULL;
        Saying o = Saying.of(kind);
        o.wit = wit;
        o.corner = corner;
        now.sayings.add(o);
        return now.sayings.size() - 1;
    }

    int told(int saying, int what) {
        if (noSaying(saying) || out(what, 0, 7)) return BAD;
        Saying o = now.sayings.get(saying);
        int[] all = {o.kind(), o.wit, o.dust, o.corner, o.turned, o.gathers(now), o.draws(now), o.worth()};
        return all[what];
    }

    int as(int saying, int kind) {
        if (noSaying(saying) || out(kind, 0, 5)) return BAD;
        Saying o = now.sayings.get(saying);
        return o.isOf(kind) ? o.wit : KIND;
    }

    int turns(int saying, int kind) {
        if (noSaying(saying) || out(kind, 0, 5)) return BAD;
        return now.sayings.set(saying, now.sayings.get(saying).as(kind)).kind();
    }

    int set(int saying, int what, int v) {
        if (noSaying(saying) || out(what, 1, 2) || out(v, 0, 99)) return BAD;
        Saying o = now.sayings.get(saying);
        int was = what == 1 ? o.wit : o.dust;
        if (what == 1) o.wit = v; else o.dust = v;
        return was;
    }

    int moves(int saying, int corner) {
        if (noSaying(saying) || out(corner, 0, 5)) return BAD;
        Saying o = now.sayings.get(saying);
        int was = o.corner;
        o.corner = corner;
        return was;
    }

    int dusts(int saying) {
        if (noSaying(saying)) return BAD;
        Saying o = now.sayings.get(saying);
        int was = o.dust;
        now.goOver(o);
        return was;
    }

    int heed(int corner, int v) {
        if (out(corner, 0, 5) || out(v, 0, 99)) return BAD;
        int was = now.heed[corner];
        now.heed[corner] = v;
        return was;
    }

    int cornerOf(int corner, int what) {
        if (out(corner, 0, 5) || out(what, 0, 4)) return BAD;
        int set = 0, worth = 0, buried = 0;
        for (int i = 0; i < now.sayings.size(); i++) {
            Saying o = now.sayings.get(i);
            if (o.corner == corner) {
                set += 1 << i;
                worth += o.worth();
                buried += o.dust == 99 ? 1 : 0;
            }
        }
        return new int[] {now.heed[corner], set, worth, buried, now.drawn(corner)}[what];
    }

    int kicks(int v) {
        if (out(v, 0, 100)) return BAD;
        int was = now.kicks;
        now.kicks = v;
        return was;
    }

    int deal(int n) {
        if (out(n, 1, 10)) return BAD;
        int came = Math.min(n, 10 - now.sayings.size());
        for (int i = 0; i < came; i++) {
            Saying o = Saying.of(now.draw() % 6);
            o.wit = now.draw() % 100;
            o.dust = now.draw() % 60;
            o.corner = now.draw() % 6;
            now.sayings.add(o);
        }
        return came;
    }

    int seed(int v) {
        int was = now.z;
        now.z = v;
        return was;
    }

    int evenings(int n) {
        if (out(n, 1, 100)) return BAD;
        int was = now.dusted;
        now = now.after(Math.min(n, 9999 - now.evening));
        return now.dusted - was;
    }

    int room(int what) {
        if (out(what, 0, 5)) return BAD;
        int corners = 0;
        for (Saying o : now.sayings) {
            corners |= 1 << o.corner;
        }
        int deafest = 5;
        for (int c = 4; c >= 0; c--) {
            if (now.heed[c] <= now.heed[deafest]) {
                deafest = c;
            }
        }
        return new int[] {now.dusted, now.found, now.allDust(), now.buriedSet(), corners, deafest}[what];
    }

    int behind(int n, int what) {
        if (out(n, 0, 100) || out(what, 0, 8)) return BAD;
        State s = now.after(n);
        if (what >= 3) return s.heed[what - 3];
        return new int[] {s.dusted, s.found, Integer.bitCount(s.buriedSet())}[what];
    }

    int sinks(int saying) {
        if (noSaying(saying)) return BAD;
        State s = now.copy();
        for (int k = 0; k <= 200; k++) {
            if (s.sayings.get(saying).dust == 99) return k;
            s.anEvening();
        }
        return NONE;
    }

    int hears(int corner, int v) {
        if (out(corner, 0, 5) || out(v, 0, 99)) return BAD;
        State s = now.copy();
        for (int k = 0; k <= 200; k++) {
            if (s.heed[corner] >= v) return k;
            s.anEvening();
        }
        return NONE;
    }

    int shine(int n) {
        if (out(n, 0, 20)) return BAD;
        int buried = Integer.bitCount(now.buriedSet());
        int best = NONE;
        for (int set = (1 << now.sayings.size()) - 1; set >= 0; set--) {
            if (best != NONE && Integer.bitCount(set) > Integer.bitCount(best)) continue;
            State s = now.copy();
            for (int i = 0; i < s.sayings.size(); i++) {
                if ((set & 1 << i) != 0) s.sayings.get(i).wit = 99;
            }
            if (Integer.bitCount(s.after(n).buriedSet()) <= buried) best = set;
        }
        return best;
    }

    int edge(int saying, int n, int v) {
        if (noSaying(saying) || out(n, 0, 30) || out(v, 0, 99)) return BAD;
        int best = NONE;
        for (int wit = 99; wit >= 0; wit--) {
            State s = now.copy();
            s.sayings.get(saying).wit = wit;
            if (s.after(n).sayings.get(saying).dust <= v) best = wit;
        }
        return best;
    }

    int place(int saying, int n, int what) {
        if (noSaying(saying) || out(n, 1, 60) || out(what, 0, 1)) return BAD;
        int best = -1, least = 1000;
        for (int c = 5; c >= 0; c--) {
            State s = now.copy();
            s.sayings.get(saying).corner = c;
            int dust = s.after(n).sayings.get(saying).dust;
            if (dust <= least) {
                least = dust;
                best = c;
            }
        }
        return what == 0 ? best : least;
    }

    int becomes(int saying, int n, int what) {
        if (noSaying(saying) || out(n, 1, 60) || out(what, 0, 1)) return BAD;
        int best = -1, most = -1;
        for (int kind = 5; kind >= 0; kind--) {
            State s = now.copy();
            s.sayings.set(saying, s.sayings.get(saying).as(kind));
            int heed = Arrays.stream(s.after(n).heed).sum();
            if (heed >= most) {
                most = heed;
                best = kind;
            }
        }
        return what == 0 ? best : most;
    }

    int like(int sheet, int what) {
        if (out(sheet, 0, 3) || out(what, 0, 1)) return BAD;
        if (sheets[sheet] == null) return NOTHING;
        if (now.sayings.isEmpty()) return NONE;
        int best = -1, least = Integer.MAX_VALUE;
        for (int i = 0; i < now.sayings.size(); i++) {
            int sum = 0;
            for (int k = 0; k < length(sheets[sheet]); k++) {
                Integer v = at(sheets[sheet], k);
                if (v != null) sum += Math.abs(now.after(k).sayings.get(i).dust - v);
            }
            if (sum < least) {
                least = sum;
                best = i;
            }
        }
        return what == 0 ? best : least;
    }

    int fee() {
        int w = now.why(1);
        return w == NONE ? now.dusted : now.laws.get(w).value("df", now.dusted, now.found);
    }

    int fine(int saying) {
        if (noSaying(saying)) return BAD;
        Saying o = now.sayings.get(saying);
        int w = now.why(2);
        return w == NONE ? o.dust : now.laws.get(w).value("wd", o.wit, o.dust);
    }

    int feed(int a, int b, int c) {
        if (tape.length() > 84) return FULL;
        for (int v : new int[] {a, b, c}) {
            tape += (char) (v >>> 24);
            tape += (char) (v >> 16 & 255);
            tape += (char) (v >> 8 & 255);
            tape += (char) (v & 255);
        }
        return tape.length();
    }

    int trim(int n) {
        if (out(n, 0, tape.length())) return BAD;
        tape = tape.substring(0, n);
        return n;
    }

    int text() {
        Law law = new Law();
        int fault = law.read(tape);
        tape = "";
        if (fault >= 0) return -100 - fault;
        if (now.laws.size() == 14) return FULL;
        now.laws.add(law);
        return now.laws.size() - 1;
    }

    int textTold(int text, int what) {
        if (out(text, 0, now.laws.size() - 1) || out(what, 0, 1)) return BAD;
        return what == 0 ? now.laws.get(text).key : now.laws.get(text).leaves();
    }

    int why(int key) {
        return out(key, 0, 2) ? BAD : now.why(key);
    }

    static int length(Object row) {
        return row instanceof short[] ? ((short[]) row).length : ((Float[]) row).length;
    }

    static Integer at(Object row, int place) {
        if (row instanceof short[]) return (int) ((short[]) row)[place];
        Float f = ((Float[]) row)[place];
        return f == null ? null : Integer.valueOf(f.intValue());
    }

    int sheet(int sheet, int sort, int n) {
        if (out(sheet, 0, 3) || out(sort, -1, 1)) return BAD;
        if (sort == -1) {
            sheets[sheet] = null;
            return 0;
        }
        if (n > 24) return BAD;
        if (n < 0) return SIZE;
        Float[] floats = new Float[n];
        Arrays.fill(floats, 0f);
        sheets[sheet] = sort == 0 ? new short[n] : floats;
        return n;
    }

    int mark(int sheet, int place, int v) {
        if (out(sheet, 0, 3)) return BAD;
        if (sheets[sheet] == null) return NOTHING;
        if (out(place, 0, length(sheets[sheet]) - 1)) return INDEX;
        if (sheets[sheet] instanceof short[]) {
            if (v == NONE) return KIND;
            ((short[]) sheets[sheet])[place] = (short) v;
            return 1;
        }
        if (v != NONE && out(v, -99999, 99999)) return BAD;
        ((Float[]) sheets[sheet])[place] = v == NONE ? null : Float.valueOf(v);
        return 1;
    }

    int pour(int sheet) {
        if (out(sheet, 0, 3)) return BAD;
        if (sheets[sheet] == null) return NOTHING;
        int[] was = now.heed.clone();
        for (int c = 0; c < 6 && c < length(sheets[sheet]); c++) {
            Integer v = at(sheets[sheet], c);
            if (v != null) now.heed[c] = v < 0 ? 0 : v > 99 ? 99 : v;
        }
        int other = 0;
        for (int c = 0; c < 6; c++) {
            if (was[c] != now.heed[c]) other++;
        }
        return other;
    }

    int reads(int sheet) {
        if (out(sheet, 0, 3)) return BAD;
        if (sheets[sheet] == null) return NOTHING;
        for (int k = 0; k < length(sheets[sheet]); k++) {
            Integer v = at(sheets[sheet], k);
            if (v == null) continue;
            if (noSaying(k)) return k;
            if (now.sayings.get(k).corner != v) return k;
        }
        return NONE;
    }

    int copy(int from, int place, int to, int at, int many) {
        if (out(from, 0, 3) || out(to, 0, 3)) return BAD;
        if (sheets[from] == null || sheets[to] == null) return NOTHING;
        if (sheets[from] instanceof short[] != sheets[to] instanceof short[]) return KIND;
        if (place < 0 || at < 0 || many < 0 || (long) place + many > length(sheets[from])
                || (long) at + many > length(sheets[to])) return INDEX;
        System.arraycopy(sheets[from], place, sheets[to], at, many);
        return many;
    }

    private int held(int slot) {
        Object o = slots[slot];
        return o == null ? 0 : o instanceof Saying ? 1 : o instanceof Integer ? 3 : 2;
    }

    int lay(int slot, int thing, int k) {
        if (out(slot, 0, 4) || out(thing, 0, 3)) return BAD;
        if (thing == 1 && noSaying(k) || thing == 2 && out(k, 0, 3)) return BAD;
        if (thing == 2 && sheets[k] == null) return NOTHING;
        int was = held(slot);
        slots[slot] = null;
        if (thing == 1) slots[slot] = now.sayings.get(k).copy();
        if (thing == 2) slots[slot] = sheets[k] instanceof short[] s ? s.clone() : ((Float[]) sheets[k]).clone();
        if (thing == 3) slots[slot] = k;
        return was;
    }

    int ask(int slot, int kind) {
        if (out(slot, 0, 4) || out(kind, 0, 5)) return BAD;
        if (held(slot) == 0) return NOTHING;
        return slots[slot] instanceof Saying s && s.isOf(kind) ? s.worth() : KIND;
    }

    int item(int slot, int place) {
        if (out(slot, 0, 4)) return BAD;
        if (held(slot) == 0) return NOTHING;
        if (held(slot) != 2) return KIND;
        if (out(place, 0, length(slots[slot]) - 1)) return INDEX;
        Integer v = at(slots[slot], place);
        return v == null ? KIND : v;
    }

    int rest(int slot, int n) {
        if (out(slot, 0, 4)) return BAD;
        if (held(slot) == 0) return NOTHING;
        if (held(slot) != 3) return KIND;
        return n == 0 ? NO : (int) ((long) (Integer) slots[slot] % n);
    }

    int tell(int v) {
        if (waiting.size() == 60) return FULL;
        waiting.add(v);
        return waiting.size();
    }

    List<Integer> eveningsTold(int n) {
        List<Integer> told = new ArrayList<>();
        for (int k = 1; k <= Math.min(n, 9999 - image.evening); k++) {
            State s = image.after(k);
            told.add(s.dusted);
            told.add(s.allDust());
        }
        return told;
    }

    int check(int n) {
        List<Integer> numbers = waiting;
        waiting = new ArrayList<>();
        if (out(n, 1, 30)) return BAD;
        if (image == null) return NO;
        List<Integer> told = eveningsTold(n);
        if (told.equals(numbers)) return 0;
        int same = 0;
        while (same < told.size() && same < numbers.size() && told.get(same).equals(numbers.get(same))) {
            same++;
        }
        return 1 + same;
    }

    int keep() {
        image = now.copy();
        return now.sayings.size();
    }

    int back() {
        if (image == null) return NO;
        now = image.copy();
        return now.sayings.size();
    }

    int count(int what) {
        if (out(what, 0, 8)) return BAD;
        return new int[] {now.sayings.size(), now.evening, now.kicks, now.dusted, now.found, now.laws.size(),
                waiting.size(), tape.length(), now.z}[what];
    }
}
