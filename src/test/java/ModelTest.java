import java.util.Random;

/** Runs of calls by lot, each answered by the class and by the model; the state is compared after each run. */
public final class ModelTest {
    private static final int[] EXTREMES = {Integer.MIN_VALUE, Integer.MAX_VALUE, -1, DustySayings.NONE,
            DustySayings.BAD, 32768, 65535, -32769, 100000, -100000, 99999, -99999};

    private final Random lot;
    private final DustySayings x = new DustySayings();
    private final Model m = new Model();
    private final StringBuilder calls = new StringBuilder();

    private ModelTest(long seed) {
        lot = new Random(seed);
    }

    public static void main(String[] args) {
        for (int run = 0; run < 2000 && Due.wrong() == 0; run++) {
            new ModelTest(run).play(run);
        }
        Due.finish();
    }

    private void play(int run) {
        if (lot.nextInt(3) > 0) {
            compare(lot.nextInt(3), 12);
            compare(lot.nextInt(11), 11);
        }
        if (lot.nextInt(12) == 0) {
            for (int i = 0; i < 100; i++) {
                due("evenings(100)", x.evenings(100), m.evenings(100));
            }
        }
        int many = 20 + lot.nextInt(150);
        for (int i = 0; i < many && Due.wrong() == 0; i++) {
            act();
        }
        compareAll();
        if (Due.wrong() != 0) {
            System.out.println("run " + run + ":" + calls);
        }
    }

    private void due(String call, int got, int want) {
        calls.append("\n  ").append(call).append(" = ").append(got);
        Due.due(call, got, want);
    }

    /** Mostly within, sometimes at the edges or just beyond, seldom far out. */
    private int near(int least, int most) {
        int r = lot.nextInt(60);
        if (r == 0) {
            return EXTREMES[lot.nextInt(EXTREMES.length)];
        }
        if (r == 1) {
            return least - 1;
        }
        if (r == 2) {
            return most + 1;
        }
        if (r == 3) {
            return least;
        }
        if (r == 4) {
            return most;
        }
        return least + lot.nextInt(most - least + 1);
    }

    private int aSaying() {
        return near(0, Math.max(0, m.now.sayings.size() - 1));
    }

    private void compare(int call, int which) {
        if (which == 12) {
            int v = call * 50;
            due("kicks(" + v + ")", x.kicks(v), m.kicks(v));
            int z = lot.nextInt();
            due("seed(" + z + ")", x.seed(z), m.seed(z));
        } else {
            due("deal(" + call + ")", x.deal(call), m.deal(call));
        }
    }

    private void act() {
        int group = lot.nextInt(100);
        if (group < 30) {
            actOnSayings(lot.nextInt(13));
        } else if (group < 38) {
            int n = lot.nextInt(4) == 0 ? near(1, 100) : near(1, 8);
            due("evenings(" + n + ")", x.evenings(n), m.evenings(n));
        } else if (group < 56) {
            think(lot.nextInt(10));
        } else if (group < 66) {
            writeText();
        } else if (group < 90) {
            actOnSheets(lot.nextInt(12));
        } else {
            actOnRows(lot.nextInt(6));
        }
    }

    private void actOnSayings(int which) {
        int s = aSaying();
        int a = near(0, 5);
        int v = near(0, 99);
        switch (which) {
            case 0: due("saying(" + a + "," + v + "," + s + ")", x.saying(a, v, s), m.saying(a, v, s)); break;
            case 1: { int w = near(0, 7); due("told(" + s + "," + w + ")", x.told(s, w), m.told(s, w)); break; }
            case 2: due("as(" + s + "," + a + ")", x.as(s, a), m.as(s, a)); break;
            case 3: due("turns(" + s + "," + a + ")", x.turns(s, a), m.turns(s, a)); break;
            case 4: { int w = near(1, 2); due("set(" + s + "," + w + "," + v + ")", x.set(s, w, v), m.set(s, w, v)); break; }
            case 5: due("moves(" + s + "," + a + ")", x.moves(s, a), m.moves(s, a)); break;
            case 6: due("dusts(" + s + ")", x.dusts(s), m.dusts(s)); break;
            case 7: due("heed(" + a + "," + v + ")", x.heed(a, v), m.heed(a, v)); break;
            case 8: { int w = near(0, 4); due("cornerOf(" + a + "," + w + ")", x.cornerOf(a, w), m.cornerOf(a, w)); break; }
            case 9: { int w = near(0, 100); due("kicks(" + w + ")", x.kicks(w), m.kicks(w)); break; }
            case 10: { int n = lot.nextInt(3) == 0 ? near(1, 10) : 1; due("deal(" + n + ")", x.deal(n), m.deal(n)); break; }
            case 11: { int z = lot.nextInt(); due("seed(" + z + ")", x.seed(z), m.seed(z)); break; }
            default: { int w = near(0, 5); due("room(" + w + ")", x.room(w), m.room(w)); break; }
        }
    }

    private void think(int which) {
        int s = aSaying();
        int what = near(0, 1);
        switch (which) {
            case 0: { int n = near(0, 100), w = near(0, 8); due("behind(" + n + "," + w + ")", x.behind(n, w), m.behind(n, w)); break; }
            case 1: due("sinks(" + s + ")", x.sinks(s), m.sinks(s)); break;
            case 2: { int c = near(0, 5), v = near(0, 99); due("hears(" + c + "," + v + ")", x.hears(c, v), m.hears(c, v)); break; }
            case 3:
                if (lot.nextInt(m.now.sayings.size() > 6 ? 12 : 2) == 0) {
                    int n = near(0, 20);
                    due("shine(" + n + ")", x.shine(n), m.shine(n));
                }
                break;
            case 4: { int n = near(0, 30), v = near(0, 99); due("edge(" + s + "," + n + "," + v + ")", x.edge(s, n, v), m.edge(s, n, v)); break; }
            case 5: { int n = near(1, 60); due("place(" + s + "," + n + "," + what + ")", x.place(s, n, what), m.place(s, n, what)); break; }
            case 6: { int n = near(1, 60); due("becomes(" + s + "," + n + "," + what + ")", x.becomes(s, n, what), m.becomes(s, n, what)); break; }
            case 7: { int h = near(0, 3); due("like(" + h + "," + what + ")", x.like(h, what), m.like(h, what)); break; }
            case 8: due("fee()", x.fee(), m.fee()); break;
            default: due("fine(" + s + ")", x.fine(s), m.fine(s)); break;
        }
    }

    private void writeText() {
        int r = lot.nextInt(10);
        if (r == 0) {
            int n = near(0, Math.max(0, m.tape.length()));
            due("trim(" + n + ")", x.trim(n), m.trim(n));
        } else if (r == 1) {
            int t = near(0, 3), w = near(0, 1);
            due("textTold(" + t + "," + w + ")", x.textTold(t, w), m.textTold(t, w));
        } else if (r == 2) {
            int k = near(0, 2);
            due("why(" + k + ")", x.why(k), m.why(k));
        } else if (r == 3) {
            int a = lot.nextInt(), b = lot.nextInt(), c = lot.nextInt();
            due("feed(" + a + "," + b + "," + c + ")", x.feed(a, b, c), m.feed(a, b, c));
        } else {
            feedText(aText());
            due("text()", x.text(), m.text());
        }
    }

    private String aText() {
        int key = lot.nextInt(3);
        StringBuilder t = new StringBuilder(Model.Law.KEYS.get(key)).append(' ');
        grow(t, key, lot.nextInt(4) == 0 ? 7 : 3);
        for (int i = lot.nextInt(3); i > 0; i--) {
            t.insert(lot.nextInt(t.length() + 1), ' ');
        }
        for (int i = lot.nextInt(8) - 5; i > 0; i--) {
            int at = lot.nextInt(t.length());
            char sign = "wdhnf019!()|&<=>+-*/ X".charAt(lot.nextInt(22));
            switch (lot.nextInt(3)) {
                case 0: t.setCharAt(at, sign); break;
                case 1: t.insert(at, sign); break;
                default: t.deleteCharAt(at); break;
            }
        }
        return t.length() > 96 ? t.substring(0, 96) : t.toString();
    }

    private void grow(StringBuilder t, int key, int depth) {
        int r = lot.nextInt(10);
        if (depth == 0 || r < 2) {
            if (lot.nextBoolean()) {
                t.append(lot.nextInt(lot.nextInt(20) == 0 ? 12000 : 12));
            } else {
                String names = Model.Law.NAMES[key];
                t.append(names.charAt(lot.nextInt(names.length())));
            }
        } else if (r == 2) {
            for (int i = lot.nextInt(8) == 0 ? 7 + lot.nextInt(3) : 1; i > 0; i--) {
                t.append('!');
            }
            grow(t, key, depth - 1);
        } else if (r == 3) {
            int many = lot.nextInt(8) == 0 ? 7 + lot.nextInt(3) : 1;
            for (int i = 0; i < many; i++) {
                t.append(lot.nextInt(4) == 0 ? "!(" : "(");
            }
            grow(t, key, depth - 1);
            for (int i = 0; i < many; i++) {
                t.append(')');
            }
        } else {
            grow(t, key, depth - 1);
            t.append("|&<=>+-*/+-*/".charAt(lot.nextInt(13)));
            grow(t, key, depth - 1);
        }
    }

    private void feedText(String t) {
        if (lot.nextInt(10) > 0) {
            due("trim(0)", x.trim(0), m.trim(0));
        }
        int was = m.tape.length();
        for (int at = 0; at < t.length(); at += 12) {
            int[] v = new int[3];
            for (int i = 0; i < 12; i++) {
                v[i / 4] = v[i / 4] << 8 | (at + i < t.length() ? t.charAt(at + i) : ' ');
            }
            due("feed(" + v[0] + "," + v[1] + "," + v[2] + ")", x.feed(v[0], v[1], v[2]), m.feed(v[0], v[1], v[2]));
        }
        int n = Math.min(96, was + t.length());
        due("trim(" + n + ")", x.trim(n), m.trim(n));
    }

    private void actOnSheets(int which) {
        int h = near(0, 3);
        int slot = near(0, 4);
        switch (which) {
            case 0: { int sort = near(-1, 1), n = near(0, 24); due("sheet(" + h + "," + sort + "," + n + ")", x.sheet(h, sort, n), m.sheet(h, sort, n)); break; }
            case 1:
            case 2:
            case 3: markSome(h); break;
            case 4: due("pour(" + h + ")", x.pour(h), m.pour(h)); break;
            case 5: due("reads(" + h + ")", x.reads(h), m.reads(h)); break;
            case 6: {
                int to = near(0, 3), p = near(0, 8), at = near(0, 8), many = near(0, 8);
                due("copy(" + h + "," + p + "," + to + "," + at + "," + many + ")", x.copy(h, p, to, at, many), m.copy(h, p, to, at, many));
                break;
            }
            case 7:
            case 8: {
                int thing = near(0, 3);
                int k = thing == 1 ? aSaying() : thing == 2 ? near(0, 3) : lot.nextInt();
                due("lay(" + slot + "," + thing + "," + k + ")", x.lay(slot, thing, k), m.lay(slot, thing, k));
                break;
            }
            case 9: { int kind = near(0, 5); due("ask(" + slot + "," + kind + ")", x.ask(slot, kind), m.ask(slot, kind)); break; }
            case 10: { int p = near(0, 10); due("item(" + slot + "," + p + ")", x.item(slot, p), m.item(slot, p)); break; }
            default: { int n = near(-9, 9); due("rest(" + slot + "," + n + ")", x.rest(slot, n), m.rest(slot, n)); break; }
        }
    }

    private void markSome(int h) {
        boolean corners = lot.nextBoolean();
        for (int i = 0; i < 6; i++) {
            int place = near(0, 12);
            int v = corners && place >= 0 && place < m.now.sayings.size() ? m.now.sayings.get(place).corner
                    : lot.nextInt(6) == 0 ? DustySayings.NONE : near(-20, 120);
            due("mark(" + h + "," + place + "," + v + ")", x.mark(h, place, v), m.mark(h, place, v));
        }
    }

    private void actOnRows(int which) {
        switch (which) {
            case 0: {
                int v = near(0, 200);
                due("tell(" + v + ")", x.tell(v), m.tell(v));
                break;
            }
            case 1:
            case 2: tellAndCheck(); break;
            case 3: due("keep()", x.keep(), m.keep()); break;
            case 4: due("back()", x.back(), m.back()); break;
            default: { int w = near(0, 8); due("count(" + w + ")", x.count(w), m.count(w)); break; }
        }
    }

    private void tellAndCheck() {
        int n = near(1, 30);
        if (m.image != null && n >= 1 && n <= 31) {
            int wrongAt = lot.nextInt(120);
            int told = 0;
            for (int v : m.eveningsTold(n)) {
                int w = told == wrongAt ? v + 1 : v;
                due("tell(" + w + ")", x.tell(w), m.tell(w));
                told++;
                if (lot.nextInt(200) == 0) {
                    break;
                }
            }
            if (lot.nextInt(8) == 0) {
                due("tell(7)", x.tell(7), m.tell(7));
            }
        }
        due("check(" + n + ")", x.check(n), m.check(n));
    }

    private void compareAll() {
        for (int w = -1; w <= 9; w++) {
            due("count(" + w + ")", x.count(w), m.count(w));
            due("room(" + w + ")", x.room(w), m.room(w));
            for (int s = -1; s <= 10; s++) {
                due("told(" + s + "," + w + ")", x.told(s, w), m.told(s, w));
            }
            for (int c = -1; c <= 6; c++) {
                due("cornerOf(" + c + "," + w + ")", x.cornerOf(c, w), m.cornerOf(c, w));
            }
        }
        for (int s = 0; s < 5; s++) {
            for (int p = 0; p <= 24; p++) {
                due("item(" + s + "," + p + ")", x.item(s, p), m.item(s, p));
            }
            for (int k = 0; k < 6; k++) {
                due("ask(" + s + "," + k + ")", x.ask(s, k), m.ask(s, k));
            }
            due("rest(" + s + ",1000)", x.rest(s, 1000), m.rest(s, 1000));
        }
        for (int t = 0; t <= 14; t++) {
            due("textTold(" + t + ",0)", x.textTold(t, 0), m.textTold(t, 0));
            due("textTold(" + t + ",1)", x.textTold(t, 1), m.textTold(t, 1));
        }
    }
}
