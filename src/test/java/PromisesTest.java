/** For each promise: ordinary inputs, the edges that the document names, and wrong inputs, with answers worked out by hand. */
public final class PromisesTest {
    private static final int BAD = DustySayings.BAD, NO = DustySayings.NO, FULL = DustySayings.FULL,
            NONE = DustySayings.NONE, NOTHING = DustySayings.NOTHING, KIND = DustySayings.KIND,
            INDEX = DustySayings.INDEX, SIZE = DustySayings.SIZE;
    private static final int MIN = Integer.MIN_VALUE, MAX = Integer.MAX_VALUE;

    private static int promise = 0;
    private static int step = 0;

    private static void due(int got, int want) {
        step++;
        Due.due("promise " + promise + ", step " + step, got, want);
    }

    private static DustySayings begin(int number) {
        promise = number;
        step = 0;
        return new DustySayings();
    }

    /** Puts a text on the tape, bytes and all, and leaves it there. */
    private static void lay(DustySayings x, String text) {
        x.trim(0);
        for (int at = 0; at < text.length(); at += 12) {
            int[] v = new int[3];
            for (int i = 0; i < 12; i++) {
                v[i / 4] = v[i / 4] << 8 | (at + i < text.length() ? text.charAt(at + i) & 255 : ' ');
            }
            x.feed(v[0], v[1], v[2]);
        }
        x.trim(text.length());
    }

    private static int write(DustySayings x, String text) {
        lay(x, text);
        return x.text();
    }

    private static void fault(String text, int place) {
        due(write(new DustySayings(), text), -100 - place);
    }

    private static void fine(String expression, int want) {
        DustySayings x = new DustySayings();
        x.saying(0, 7, 0);
        x.set(0, 2, 3);
        due(write(x, "fine " + expression), 0);
        due(x.fine(0), want);
    }

    public static void main(String[] args) {
        newObject();
        saying();
        told();
        as();
        turns();
        set();
        moves();
        dusts();
        heed();
        cornerOf();
        kicks();
        deal();
        seed();
        evenings();
        kicking();
        room();
        behind();
        sinks();
        hears();
        shine();
        edge();
        place();
        becomes();
        like();
        fee();
        fineTold();
        feed();
        trim();
        text();
        faults();
        values();
        bloom();
        textTold();
        why();
        sheet();
        mark();
        pour();
        reads();
        copy();
        layInSlots();
        ask();
        item();
        rest();
        tell();
        check();
        keep();
        back();
        count();
        Due.finish();
    }

    private static void newObject() {
        DustySayings x = begin(1);
        for (int what = 0; what <= 7; what++) {
            due(x.count(what), 0);
        }
        due(x.count(8), 1);
        for (int corner = 0; corner < 6; corner++) {
            due(x.cornerOf(corner, 0), 50);
        }
        for (int i = 0; i < 4; i++) {
            due(x.pour(i), NOTHING);
        }
        for (int i = 0; i < 5; i++) {
            due(x.ask(i, 0), NOTHING);
        }
        due(x.back(), NO);
        due(x.told(0, 0), BAD);
    }

    private static void saying() {
        DustySayings x = begin(2);
        due(x.saying(-1, 5, 0), BAD);
        due(x.saying(6, 5, 0), BAD);
        due(x.saying(0, -1, 0), BAD);
        due(x.saying(0, 100, 0), BAD);
        due(x.saying(0, 0, -1), BAD);
        due(x.saying(0, 0, 6), BAD);
        due(x.count(0), 0);
        for (int i = 0; i < 10; i++) {
            due(x.saying(i % 6, i * 11, i % 6), i);
        }
        due(x.saying(0, 0, 0), FULL);
        due(x.saying(6, 0, 0), BAD);
        due(x.count(0), 10);
        due(x.told(9, 1), 99);
        due(x.told(9, 2), 0);
    }

    private static void told() {
        DustySayings x = begin(3);
        x.heed(2, 8);
        int[][] want = {
            // kind, wit, dust, corner, turned, gathers, draws, worth
            {0, 57, 23, 2, 0, 9, 3, 34},
            {1, 57, 23, 2, 0, 7, 4, 39},
            {2, 57, 23, 2, 0, 11, 1, 65},
            {3, 57, 23, 2, 0, 7, 8, 78},
            {4, 57, 23, 2, 0, 22, 0, 32},
            {5, 57, 23, 2, 0, 1, 0, 23}};
        for (int kind = 0; kind < 6; kind++) {
            x.saying(kind, 57, 2);
            x.set(kind, 2, 23);
        }
        for (int kind = 0; kind < 6; kind++) {
            for (int what = 0; what < 8; what++) {
                due(x.told(kind, what), want[kind][what]);
            }
        }
        x.set(3, 1, 80);
        due(x.told(3, 5), 7);
        x.set(3, 1, 81);
        due(x.told(3, 5), 0);
        x.set(0, 2, 99);
        due(x.told(0, 6), -4);
        due(x.told(0, 7), 0);
        for (int i = 6; i < 10; i++) {
            x.saying(1, 0, 2);
        }
        due(x.told(1, 5), 0);
        due(x.told(-1, 0), BAD);
        due(x.told(10, 0), BAD);
        due(x.told(0, -1), BAD);
        due(x.told(0, 8), BAD);
        due(x.told(MAX, MIN), BAD);
    }

    private static void as() {
        DustySayings x = begin(4);
        String[] isOf = {"100000", "110000", "101000", "110100", "101010", "100001"};
        for (int kind = 0; kind < 6; kind++) {
            x.saying(kind, 40 + kind, 0);
            for (int as = 0; as < 6; as++) {
                due(x.as(kind, as), isOf[kind].charAt(as) == '1' ? 40 + kind : KIND);
            }
        }
        due(x.as(6, 0), BAD);
        due(x.as(-1, 0), BAD);
        due(x.as(0, 6), BAD);
        due(x.as(0, -1), BAD);
    }

    private static void turns() {
        DustySayings x = begin(5);
        x.saying(2, 30, 1);
        x.set(0, 2, 12);
        due(x.turns(0, 4), 2);
        due(x.turns(0, 4), 4);
        due(x.told(0, 0), 4);
        due(x.told(0, 2), 12);
        due(x.turns(0, 6), BAD);
        due(x.turns(0, -1), BAD);
        due(x.turns(1, 0), BAD);
        due(x.told(0, 0), 4);
    }

    private static void set() {
        DustySayings x = begin(6);
        x.saying(0, 30, 1);
        due(x.set(0, 1, 99), 30);
        due(x.set(0, 1, 0), 99);
        due(x.set(0, 2, 99), 0);
        due(x.set(0, 2, 0), 99);
        due(x.told(0, 4), 0);
        due(x.set(0, 0, 1), BAD);
        due(x.set(0, 3, 1), BAD);
        due(x.set(0, 1, 100), BAD);
        due(x.set(0, 2, -1), BAD);
        due(x.set(1, 1, 1), BAD);
        due(x.set(-1, 1, 1), BAD);
        due(x.told(0, 1), 0);
    }

    private static void moves() {
        DustySayings x = begin(7);
        x.saying(0, 30, 1);
        due(x.moves(0, 5), 1);
        due(x.moves(0, 0), 5);
        due(x.moves(0, 6), BAD);
        due(x.moves(0, -1), BAD);
        due(x.moves(1, 0), BAD);
        due(x.told(0, 3), 0);
    }

    private static void dusts() {
        DustySayings x = begin(8);
        x.saying(0, 30, 1);
        due(x.dusts(0), 0);
        due(x.told(0, 4), 0);
        due(x.room(0), 0);
        x.set(0, 2, 99);
        due(x.dusts(0), 99);
        due(x.told(0, 2), 0);
        due(x.told(0, 4), 1);
        due(x.room(0), 1);
        due(x.dusts(1), BAD);
        due(x.dusts(-1), BAD);
    }

    private static void heed() {
        DustySayings x = begin(9);
        due(x.heed(5, 99), 50);
        due(x.heed(5, 0), 99);
        due(x.heed(5, 100), BAD);
        due(x.heed(5, -1), BAD);
        due(x.heed(6, 0), BAD);
        due(x.heed(-1, 0), BAD);
        due(x.cornerOf(5, 0), 0);
    }

    private static void cornerOf() {
        DustySayings x = begin(10);
        x.saying(0, 50, 3);
        x.saying(1, 50, 0);
        x.saying(4, 20, 3);
        x.saying(2, 20, 3);
        x.set(3, 2, 99);
        due(x.cornerOf(3, 0), 50);
        due(x.cornerOf(3, 1), 13);
        due(x.cornerOf(3, 2), 50 + 39 + 99);
        due(x.cornerOf(3, 3), 1);
        due(x.cornerOf(3, 4), 5 + 2 - 2 - 1);
        due(x.cornerOf(1, 1), 0);
        due(x.cornerOf(1, 4), 0);
        due(x.cornerOf(3, 5), BAD);
        due(x.cornerOf(3, -1), BAD);
        due(x.cornerOf(6, 0), BAD);
        due(x.cornerOf(-1, 0), BAD);
    }

    private static void kicks() {
        DustySayings x = begin(11);
        due(x.kicks(100), 0);
        due(x.kicks(101), BAD);
        due(x.kicks(-1), BAD);
        due(x.kicks(0), 100);
    }

    private static int z;

    private static int draw() {
        z = z * 1103515245 + 12345;
        return z >>> 8;
    }

    private static void deal() {
        DustySayings x = begin(12);
        due(x.deal(0), BAD);
        due(x.deal(11), BAD);
        due(x.count(8), 1);
        z = 1;
        due(x.deal(7), 7);
        due(x.deal(10), 3);
        for (int i = 0; i < 10; i++) {
            due(x.told(i, 0), draw() % 6);
            due(x.told(i, 1), draw() % 100);
            due(x.told(i, 2), draw() % 60);
            due(x.told(i, 3), draw() % 6);
        }
        due(x.count(8), z);
        due(x.deal(1), 0);
        due(x.count(8), z);
    }

    private static void seed() {
        DustySayings x = begin(13);
        due(x.seed(MIN), 1);
        due(x.seed(MAX), MIN);
        due(x.count(8), MAX);
    }

    private static void evenings() {
        DustySayings x = begin(14);
        due(x.evenings(0), BAD);
        due(x.evenings(101), BAD);
        due(x.count(1), 0);
        // in corner 0: the sermon is gone over though the saying is dustier; nobody else is in corner 1
        x.saying(0, 50, 0);
        x.saying(2, 50, 0);
        x.saying(4, 50, 0);
        x.set(0, 2, 90);
        x.set(1, 2, 20);
        x.set(2, 2, 20);
        due(x.evenings(1), 1);
        due(x.told(0, 2), 94);
        due(x.told(1, 2), 6);
        due(x.told(1, 4), 1);
        due(x.told(2, 2), 32);
        // 5 - 9, 5 - 0 - 2, 5 - 3 - 2 - 1
        due(x.cornerOf(0, 0), 50 - 4 + 3 - 1);
        due(x.count(1), 1);
        z = 1;
        draw();
        due(x.count(8), z);
        due(x.evenings(5), 0);
        due(x.evenings(1), 1);
        due(x.told(2, 4), 1);
        x = new DustySayings();
        // a clergyman without dust is still begun with
        x.saying(0, 0, 0);
        x.saying(2, 0, 0);
        x.set(0, 2, 9);
        due(x.evenings(1), 0);
        due(x.told(0, 4), 0);
        x = new DustySayings();
        x.saying(0, 0, 0);
        x.saying(0, 0, 0);
        x.set(0, 2, 98);
        x.set(1, 2, 98);
        due(x.evenings(1), 1);
        due(x.told(0, 2), 4);
        due(x.told(1, 2), 99);
        due(x.cornerOf(0, 0), 50);
        x.heed(0, 2);
        x.set(0, 2, 98);
        due(x.evenings(1), 0);
        due(x.told(0, 2), 99);
        due(x.cornerOf(0, 0), 2);
        x.set(0, 2, 50);
        x.evenings(1);
        due(x.cornerOf(0, 0), 0);
        x.saying(3, 99, 0);
        x.heed(0, 98);
        x.evenings(1);
        due(x.cornerOf(0, 0), 99);
        for (int i = 0; i < 100; i++) {
            x.evenings(100);
        }
        due(x.count(1), 9999);
        int was = x.count(8);
        due(x.evenings(100), 0);
        due(x.count(8), was);
    }

    /** The last part of an evening, with every draw done by hand. */
    private static void kicking() {
        DustySayings x = begin(14);
        x.kicks(100);
        x.evenings(1);
        z = 1;
        draw();
        due(x.count(8), z);
        x.saying(5, 0, 3);
        x.saying(5, 0, 3);
        int[] dust = {99, 99};
        int[] corner = {3, 3};
        x.set(0, 2, 99);
        x.set(1, 2, 99);
        int found = 0;
        for (int evening = 1; evening < 40; evening++) {
            if (evening % 6 == corner[0] || evening % 6 == corner[1]) {
                int first = corner[0] != evening % 6 || corner[1] == evening % 6 && dust[1] > dust[0] ? 1 : 0;
                dust[first] = 0;
            }
            dust[0] = Math.min(99, dust[0] + 1);
            dust[1] = Math.min(99, dust[1] + 1);
            draw();
            int kicked = draw() % 2;
            int where = draw() % 6;
            if (dust[kicked] == 99) {
                dust[kicked] = 0;
                corner[kicked] = where;
                found++;
            }
            x.evenings(1);
            due(x.told(0, 2), dust[0]);
            due(x.told(1, 2), dust[1]);
            due(x.told(0, 3), corner[0]);
            due(x.told(1, 3), corner[1]);
            due(x.room(1), found);
            due(x.count(8), z);
        }
        due(found > 0 ? 1 : 0, 1);
        x = new DustySayings();
        x.saying(0, 0, 0);
        x.kicks(1);
        // the rest by 100 of the first draw of seed 1 is not below 1: one draw alone
        z = 1;
        int rest = draw() % 100;
        x.kicks(rest);
        x.evenings(1);
        due(x.count(8), z);
        x.seed(1);
        x.kicks(rest + 1);
        x.evenings(1);
        draw();
        draw();
        due(x.count(8), z);
    }

    private static void room() {
        DustySayings x = begin(15);
        due(x.room(5), 0);
        x.saying(0, 0, 1);
        x.saying(0, 0, 4);
        x.saying(0, 0, 4);
        x.set(1, 2, 99);
        x.set(2, 2, 98);
        x.heed(2, 10);
        x.heed(3, 10);
        due(x.room(0), 0);
        due(x.room(1), 0);
        due(x.room(2), 197);
        due(x.room(3), 2);
        due(x.room(4), 18);
        due(x.room(5), 2);
        due(x.room(6), BAD);
        due(x.room(-1), BAD);
    }

    private static void behind() {
        DustySayings x = begin(16);
        x.saying(0, 99, 0);
        x.saying(2, 10, 1);
        x.set(1, 2, 90);
        x.kicks(50);
        for (int n = 0; n <= 100; n += 20) {
            DustySayings y = new DustySayings();
            y.saying(0, 99, 0);
            y.saying(2, 10, 1);
            y.set(1, 2, 90);
            y.kicks(50);
            if (n > 0) {
                y.evenings(n);
            }
            due(x.behind(n, 0), y.room(0));
            due(x.behind(n, 1), y.room(1));
            due(x.behind(n, 2), Integer.bitCount(y.room(3)));
            for (int corner = 0; corner < 6; corner++) {
                due(x.behind(n, 3 + corner), y.cornerOf(corner, 0));
            }
        }
        due(x.count(1), 0);
        due(x.count(8), 1);
        due(x.behind(-1, 0), BAD);
        due(x.behind(101, 0), BAD);
        due(x.behind(1, 9), BAD);
        due(x.behind(1, -1), BAD);
        // thought goes beyond the last evening
        for (int i = 0; i < 100; i++) {
            x.evenings(100);
        }
        due(x.behind(100, 0) > x.room(0) ? 1 : 0, 1);
    }

    private static void sinks() {
        DustySayings x = begin(17);
        x.saying(5, 0, 5);
        x.set(0, 2, 96);
        due(x.sinks(0), 3);
        x.set(0, 2, 99);
        due(x.sinks(0), 0);
        x.set(0, 2, 90);
        due(x.sinks(0), NONE);
        due(x.sinks(1), BAD);
        due(x.sinks(-1), BAD);
        // a remark without evenings' help: it is dusted in its corner each sixth evening
        x.saying(5, 0, 5);
        x.set(1, 2, 92);
        due(x.sinks(1), NONE);
        // another one with more dust in the corner shields it
        x.set(0, 2, 98);
        due(x.sinks(1), 7);
        // runs that sink at the last evening thought of, and one behind it
        due(byLot(1, 1804, 6).sinks(1), 200);
        due(byLot(4, 13177, 3).sinks(1), NONE);
    }

    private static DustySayings byLot(int kicks, int seed, int many) {
        DustySayings x = new DustySayings();
        x.kicks(kicks);
        x.seed(seed);
        x.deal(many);
        return x;
    }

    private static void hears() {
        DustySayings x = begin(18);
        due(x.hears(2, 50), 0);
        due(x.hears(2, 51), NONE);
        x.saying(3, 90, 2);
        due(x.hears(2, 70), 1);
        due(x.hears(2, 71), 2);
        due(x.hears(2, 99), 3);
        due(x.hears(2, 0), 0);
        due(x.hears(2, 100), BAD);
        due(x.hears(2, -1), BAD);
        due(x.hears(6, 0), BAD);
        due(x.hears(-1, 0), BAD);
        due(x.cornerOf(2, 0), 50);
        due(byLot(3, 462, 5).hears(5, 51), 200);
        due(byLot(3, 462, 5).hears(5, 57), NONE);
    }

    private static void shine() {
        DustySayings x = begin(19);
        due(x.shine(0), 0);
        due(x.shine(-1), BAD);
        due(x.shine(21), BAD);
        // a sally sinks unless it is bright; the remark beside it sinks whatever happens
        x.saying(3, 50, 5);
        x.set(0, 2, 97);
        due(x.shine(1), 1);
        x.saying(5, 50, 4);
        x.saying(3, 50, 3);
        x.set(2, 2, 97);
        due(x.shine(1), 5);
        due(x.shine(0), 0);
        x.set(1, 2, 98);
        due(x.shine(1), NONE);
        x.set(1, 2, 99);
        due(x.shine(1), 5);
        due(x.told(0, 1), 50);
        // one buried saying is gone over in time, so one more may sink: the least of the two
        x.set(1, 2, 0);
        x.saying(0, 0, 0);
        x.set(3, 2, 99);
        due(x.shine(1), 1);
    }

    private static void edge() {
        DustySayings x = begin(20);
        x.saying(3, 0, 5);
        x.set(0, 2, 10);
        due(x.edge(0, 0, 10), 0);
        due(x.edge(0, 0, 9), NONE);
        due(x.edge(0, 1, 10), 81);
        due(x.edge(0, 1, 14), 0);
        due(x.told(0, 1), 0);
        due(x.edge(1, 1, 10), BAD);
        due(x.edge(0, 31, 10), BAD);
        due(x.edge(0, -1, 10), BAD);
        due(x.edge(0, 1, 100), BAD);
        due(x.edge(0, 1, -1), BAD);
        x.set(0, 2, 0);
        x.turns(0, 0);
        write(x, "bloom w<99");
        due(x.edge(0, 1, 0), 99);
        due(x.edge(0, 30, 0), 99);
        write(x, "bloom w<100");
        due(x.edge(0, 1, 0), NONE);
    }

    private static void place() {
        DustySayings x = begin(21);
        x.saying(0, 0, 5);
        x.set(0, 2, 10);
        due(x.place(0, 1, 0), 0);
        due(x.place(0, 1, 1), 4);
        x.heed(3, 99);
        x.heed(4, 99);
        x.saying(0, 0, 0);
        x.set(1, 2, 99);
        due(x.place(0, 1, 0), 3);
        due(x.place(0, 1, 1), 10);
        due(x.told(0, 3), 5);
        due(x.place(0, 0, 0), BAD);
        due(x.place(0, 61, 0), BAD);
        due(x.place(0, 1, 2), BAD);
        due(x.place(0, 1, -1), BAD);
        due(x.place(2, 1, 0), BAD);
        due(x.place(0, 60, 0) >= 0 ? 1 : 0, 1);
    }

    private static void becomes() {
        DustySayings x = begin(22);
        x.saying(5, 55, 5);
        due(x.becomes(0, 1, 0), 3);
        due(x.becomes(0, 1, 1), 312);
        x.heed(5, 99);
        due(x.becomes(0, 1, 0), 0);
        due(x.becomes(0, 1, 1), 349);
        due(x.told(0, 0), 5);
        due(x.becomes(0, 0, 0), BAD);
        due(x.becomes(0, 61, 0), BAD);
        due(x.becomes(0, 1, 2), BAD);
        due(x.becomes(0, 1, -1), BAD);
        due(x.becomes(1, 1, 0), BAD);
    }

    private static void like() {
        DustySayings x = begin(23);
        due(x.like(4, 0), BAD);
        due(x.like(-1, 0), BAD);
        due(x.like(0, 2), BAD);
        due(x.like(0, -1), BAD);
        due(x.like(0, 0), NOTHING);
        x.sheet(0, 1, 3);
        due(x.like(0, 0), NONE);
        x.saying(5, 0, 5);
        x.saying(5, 0, 5);
        x.set(1, 2, 10);
        due(x.like(0, 0), 0);
        due(x.like(0, 1), 3);
        x.mark(0, 0, 20);
        x.mark(0, 1, NONE);
        x.mark(0, 2, -5);
        // saying 0: 20 + 7, saying 1: 10 + 17
        due(x.like(0, 0), 0);
        due(x.like(0, 1), 27);
        x.mark(0, 2, -4);
        x.mark(0, 0, 21);
        due(x.like(0, 0), 0);
        x.mark(0, 2, 3);
        due(x.like(0, 0), 1);
        due(x.like(0, 1), 11 + 9);
        x.sheet(0, 0, 0);
        due(x.like(0, 0), 0);
        due(x.like(0, 1), 0);
        due(x.count(1), 0);
    }

    private static void fee() {
        DustySayings x = begin(24);
        due(x.fee(), 0);
        x.saying(0, 0, 0);
        x.set(0, 2, 3);
        x.dusts(0);
        due(x.fee(), 1);
        due(write(x, "fee d*100+f+7"), 0);
        due(x.fee(), 107);
        x.kicks(100);
        for (int i = 0; i < 5 && x.room(1) == 0; i++) {
            x.set(0, 2, 99);
            x.moves(0, 5);
            x.evenings(1);
        }
        due(x.room(1), 1);
        due(x.fee(), 100 * x.room(0) + 8);
    }

    private static void fineTold() {
        DustySayings x = begin(25);
        due(x.fine(0), BAD);
        x.saying(0, 42, 0);
        x.saying(0, 17, 0);
        x.set(1, 2, 9);
        due(x.fine(1), 9);
        write(x, "fine w*100-d");
        due(x.fine(0), 4200);
        due(x.fine(1), 1691);
        due(x.fine(2), BAD);
        due(x.fine(-1), BAD);
    }

    private static void feed() {
        DustySayings x = begin(26);
        for (int i = 1; i <= 8; i++) {
            due(x.feed(0x66696e65, 0x20200000 | 0x2020, 0x39392020), 12 * i);
        }
        due(x.feed(0, 0, 0), FULL);
        due(x.count(7), 96);
        x.trim(85);
        due(x.feed(0, 0, 0), FULL);
        x.trim(84);
        due(x.feed(0, 0, 0), 96);
        x.trim(12);
        due(x.text(), 0);
        due(x.textTold(0, 0), 2);
        // bytes above 127 are signs, not letters
        x.feed(0xe2ffffff, -1, -1);
        due(x.text(), -100);
    }

    private static void trim() {
        DustySayings x = begin(27);
        due(x.trim(0), 0);
        due(x.trim(1), BAD);
        due(x.trim(-1), BAD);
        x.feed(0, 0, 0);
        due(x.trim(12), 12);
        due(x.trim(13), BAD);
        due(x.trim(5), 5);
        due(x.trim(6), BAD);
        due(x.count(7), 5);
    }

    private static void text() {
        DustySayings x = begin(28);
        due(x.text(), -100);
        due(write(x, "fee +"), -104);
        due(x.count(7), 0);
        for (int i = 0; i < 14; i++) {
            due(write(x, "fee " + i), i);
            due(x.count(7), 0);
        }
        due(write(x, "fee ?"), -104);
        lay(x, "fee 1");
        due(x.text(), FULL);
        due(x.count(7), 0);
        due(x.count(5), 14);
        due(x.fee(), 13);
        x = new DustySayings();
        due(write(x, "  bloom  ( w+d )*h / n  "), 0);
        due(write(x, "bloom(w)"), 1);
        due(write(x, "bloom!w"), 2);
        due(write(x, "fee f|d&f<d"), 3);
        due(write(x, "fine 9999"), 4);
        due(write(x, "fine ((((((((w))))))))+((((((((w))))))))"), 5);
        due(write(x, "fine !!!!!!!!w+!!!!!!!!w"), 6);
        due(write(x, "fine !(!(!(!(!(!(!(!(w))))))))"), 7);
        due(write(x, "fine 1<2&3<4|5=6"), 8);
        due(write(x, "fine (1<2)<3"), 9);
        // what was read before leaves nothing behind
        due(write(x, "fee fee"), -104);
        due(write(x, "fee 1"), 10);
        due(write(x, "fee 12345"), -104);
        due(write(x, "fee 2"), 11);
    }

    private static void faults() {
        begin(28);
        fault("", 0);
        fault("   ", 3);
        fault("blooms w", 0);
        fault("Bloom w", 0);
        fault(" flee", 1);
        fault("3 w", 0);
        fault("bloom", 5);
        fault("bloom  ", 7);
        fault("bloom3", 5);
        fault("bloom\tw", 5);
        fault("fee fee", 4);
        fault("bloom f", 6);
        fault("fee w", 4);
        fault("fine h", 5);
        fault("fine n", 5);
        fault("bloom wd", 6);
        fault("bloom w d", 8);
        fault("bloom w3", 7);
        fault("bloom 3w", 7);
        fault("bloom 12345", 6);
        fault("bloom 00001+1", 6);
        fault("bloom 1234+12345", 11);
        fault("bloom -1", 6);
        fault("bloom w+", 8);
        fault("bloom w+ ", 9);
        fault("bloom w+*d", 8);
        fault("bloom (w", 8);
        fault("bloom (w d)", 9);
        fault("bloom w)", 7);
        fault("bloom ()", 7);
        fault("bloom !", 7);
        fault("bloom w!d", 7);
        fault("bloom w(d)", 7);
        fault("bloom w<d<h", 9);
        fault("bloom w<d=h", 9);
        fault("bloom (w<d<h)", 10);
        fault("bloom w<=d", 8);
        fault("bloom w=", 8);
        fault("bloom (((((((((w)))))))))", 14);
        fault("bloom !!!!!!!!!w", 14);
        fault("bloom !!!!(!!!!(!w))", 16);
        fault("bloom ((((!((((w))))(((((w)))))))))", 20);
        fault("bloom ((((((((!!!!!!!!(w)))))))))", 22);
        fault("bloom (w|d", 10);
        fault("bloom (w|d|)", 11);
        fault("floom w", 0);
        fault("bloom w\0", 7);
        fault("bloom w" + (char) 160, 7);
        StringBuilder longest = new StringBuilder("bloom w");
        while (longest.length() < 96) {
            longest.append(longest.length() % 2 == 1 ? '+' : 'd');
        }
        fault(longest.toString(), 95 + (longest.charAt(95) == '+' ? 1 : 0));
    }

    private static void values() {
        begin(25);
        fine("2+3*4-1", 13);
        fine("(2+3)*4", 20);
        fine("7-2-1", 4);
        fine("100/7/2", 7);
        fine("9/2*2", 8);
        fine("(0-7)/2", -3);
        fine("w/0", 0);
        fine("5/(w-7)", 0);
        fine("w<8", 1);
        fine("w<7", 0);
        fine("w=7", 1);
        fine("w>6", 1);
        fine("w>7", 0);
        fine("w+1<d+6", 1);
        fine("5|0", 1);
        fine("0|0", 0);
        fine("5&2", 1);
        fine("5&0", 0);
        fine("1|0&0", 1);
        fine("5", 5);
        fine("(5)", 5);
        fine("!5", 0);
        fine("!0", 1);
        fine("!!5", 1);
        fine("!w-1", -1);
        fine("!d*4+2", 2);
        fine("0|w=7&d=3", 1);
        fine("(0|3)+1", 2);
        fine("w=(d=3|w)+6", 1);
        fine("9999*9999*9999", 9999 * 9999 * 9999);
        fine("(0-9999)*9999*9999*9999", -9999 * 9999 * 9999 * 9999);
        fine("0-8192*8192*32/1", MIN);
        fine("(0-8192*8192*32)/(0-1)", MIN);
        fine("0007+0", 7);
    }

    private static void bloom() {
        DustySayings x = begin(3);
        x.saying(0, 31, 2);
        x.saying(2, 31, 2);
        x.saying(1, 31, 4);
        x.set(0, 2, 5);
        x.heed(2, 7);
        write(x, "bloom w+d+h+n");
        due(x.told(0, 5), 31 + 5 + 7 + 2);
        due(x.told(1, 5), 31 + 7 + 2 + 2);
        due(x.told(2, 5), 31 + 50 + 1);
        write(x, "bloom w*9");
        due(x.told(0, 5), 99);
        due(x.told(1, 5), 101);
        write(x, "bloom 0-w");
        due(x.told(0, 5), 0);
        due(x.told(1, 5), 2);
        due(x.told(2, 5), 0);
        write(x, "bloom d+1");
        x.set(2, 2, 7);
        x.evenings(1);
        due(x.told(0, 2), 11);
        due(x.told(2, 2), 15);
        due(x.sinks(2), 3);
    }

    private static void textTold() {
        DustySayings x = begin(29);
        due(x.textTold(0, 0), BAD);
        write(x, "bloom (w+12)*!w/n");
        write(x, "fee 1");
        write(x, "fine w|d&0");
        due(x.textTold(0, 0), 0);
        due(x.textTold(1, 0), 1);
        due(x.textTold(2, 0), 2);
        due(x.textTold(0, 1), 4);
        due(x.textTold(1, 1), 1);
        due(x.textTold(2, 1), 3);
        due(x.textTold(3, 0), BAD);
        due(x.textTold(-1, 0), BAD);
        due(x.textTold(0, 2), BAD);
        due(x.textTold(0, -1), BAD);
    }

    private static void why() {
        DustySayings x = begin(30);
        due(x.why(0), NONE);
        due(x.why(3), BAD);
        due(x.why(-1), BAD);
        write(x, "fine 1");
        write(x, "bloom 1");
        write(x, "fine 2");
        due(x.why(0), 1);
        due(x.why(1), NONE);
        due(x.why(2), 2);
        write(x, "fine 3 3");
        due(x.why(2), 2);
    }

    private static void sheet() {
        DustySayings x = begin(31);
        due(x.sheet(4, 0, 1), BAD);
        due(x.sheet(-1, 0, 1), BAD);
        due(x.sheet(0, 2, 1), BAD);
        due(x.sheet(0, -2, 1), BAD);
        due(x.sheet(0, 0, 25), BAD);
        due(x.sheet(0, 0, -1), SIZE);
        due(x.sheet(0, 1, MIN), SIZE);
        due(x.sheet(4, 0, -1), BAD);
        due(x.pour(0), NOTHING);
        due(x.sheet(3, 1, 24), 24);
        due(x.mark(3, 23, 5), 1);
        due(x.sheet(3, 1, 24), 24);
        x.lay(0, 2, 3);
        due(x.item(0, 23), 0);
        due(x.sheet(3, 0, 0), 0);
        due(x.mark(3, 0, 0), INDEX);
        due(x.sheet(3, -1, 99), 0);
        due(x.mark(3, 0, 0), NOTHING);
        due(x.sheet(3, -1, -9), 0);
    }

    private static void mark() {
        DustySayings x = begin(32);
        due(x.mark(4, 0, 0), BAD);
        due(x.mark(-1, 0, 0), BAD);
        due(x.mark(0, 0, 0), NOTHING);
        x.sheet(0, 0, 3);
        due(x.mark(0, 3, NONE), INDEX);
        due(x.mark(0, -1, 0), INDEX);
        due(x.mark(0, 0, NONE), KIND);
        due(x.mark(0, 0, 40000), 1);
        due(x.mark(0, 1, MIN), 1);
        due(x.mark(0, 2, -32769), 1);
        x.lay(0, 2, 0);
        due(x.item(0, 0), 40000 - 65536);
        due(x.item(0, 1), 0);
        due(x.item(0, 2), 32767);
        x.sheet(0, 1, 3);
        due(x.mark(0, 0, 100000), BAD);
        due(x.mark(0, 0, -100000), BAD);
        due(x.mark(0, 3, 100000), INDEX);
        due(x.mark(0, 0, 99999), 1);
        due(x.mark(0, 1, -99999), 1);
        due(x.mark(0, 2, NONE), 1);
        x.lay(0, 2, 0);
        due(x.item(0, 0), 99999);
        due(x.item(0, 1), -99999);
        due(x.item(0, 2), KIND);
    }

    private static void pour() {
        DustySayings x = begin(33);
        due(x.pour(4), BAD);
        due(x.pour(-1), BAD);
        due(x.pour(0), NOTHING);
        x.sheet(0, 1, 5);
        x.mark(0, 0, 50);
        x.mark(0, 1, 100);
        x.mark(0, 2, -1);
        x.mark(0, 3, NONE);
        x.mark(0, 4, 7);
        due(x.pour(0), 3);
        int[] want = {50, 99, 0, 50, 7, 50};
        for (int i = 0; i < 6; i++) {
            due(x.cornerOf(i, 0), want[i]);
        }
        due(x.pour(0), 0);
        x.sheet(0, 0, 24);
        due(x.pour(0), 5);
        x.sheet(0, 0, 0);
        due(x.pour(0), 0);
    }

    private static void reads() {
        DustySayings x = begin(34);
        due(x.reads(4), BAD);
        due(x.reads(-1), BAD);
        due(x.reads(0), NOTHING);
        x.sheet(0, 1, 0);
        due(x.reads(0), NONE);
        x.sheet(0, 1, 3);
        due(x.reads(0), 0);
        x.saying(0, 0, 4);
        x.saying(0, 0, 2);
        x.mark(0, 0, 4);
        x.mark(0, 1, 3);
        due(x.reads(0), 1);
        x.mark(0, 1, NONE);
        due(x.reads(0), 2);
        x.mark(0, 1, 2);
        due(x.reads(0), 2);
        x.mark(0, 2, NONE);
        due(x.reads(0), NONE);
    }

    private static void copy() {
        DustySayings x = begin(35);
        due(x.copy(4, 0, 0, 0, 1), BAD);
        due(x.copy(0, 0, -1, 0, 1), BAD);
        due(x.copy(0, 0, 0, 0, 1), NOTHING);
        x.sheet(0, 0, 5);
        due(x.copy(0, 0, 1, 0, 1), NOTHING);
        due(x.copy(1, 0, 0, 0, 1), NOTHING);
        x.sheet(1, 1, 5);
        due(x.copy(0, 9, 1, 0, 1), KIND);
        for (int i = 0; i < 5; i++) {
            x.mark(0, i, i + 1);
        }
        due(x.copy(0, 0, 0, 2, 3), 3);
        row(x, 0, 1, 2, 1, 2, 3);
        due(x.copy(0, 1, 0, 0, 4), 4);
        row(x, 0, 2, 1, 2, 3, 3);
        x.sheet(2, 0, 3);
        due(x.copy(0, 2, 2, 0, 3), 3);
        row(x, 2, 2, 3, 3);
        due(x.copy(0, 3, 2, 0, 3), INDEX);
        due(x.copy(0, 0, 2, 1, 3), INDEX);
        due(x.copy(0, -1, 2, 0, 1), INDEX);
        due(x.copy(0, 0, 2, -1, 1), INDEX);
        due(x.copy(0, 0, 2, 0, -1), INDEX);
        due(x.copy(0, MAX, 2, 0, MAX), INDEX);
        due(x.copy(0, 1, 2, 1, MAX), INDEX);
        due(x.copy(0, MIN, 2, 0, MIN), INDEX);
        due(x.copy(0, 5, 2, 3, 0), 0);
        due(x.copy(0, 6, 2, 0, 0), INDEX);
        x.mark(1, 0, NONE);
        due(x.copy(1, 0, 1, 4, 1), 1);
        x.lay(0, 2, 1);
        due(x.item(0, 4), KIND);
    }

    private static void row(DustySayings x, int sheet, int... want) {
        x.lay(4, 2, sheet);
        for (int i = 0; i < want.length; i++) {
            due(x.item(4, i), want[i]);
        }
        due(x.item(4, want.length), INDEX);
    }

    private static void layInSlots() {
        DustySayings x = begin(36);
        due(x.lay(5, 0, 0), BAD);
        due(x.lay(-1, 0, 0), BAD);
        due(x.lay(0, 4, 0), BAD);
        due(x.lay(0, -1, 0), BAD);
        due(x.lay(0, 1, 0), BAD);
        due(x.lay(0, 2, 4), BAD);
        due(x.lay(0, 2, -1), BAD);
        due(x.lay(0, 2, 0), NOTHING);
        due(x.lay(0, 3, MIN), 0);
        x.saying(0, 50, 0);
        x.sheet(0, 0, 1);
        due(x.lay(0, 1, 1), BAD);
        due(x.lay(0, 1, 0), 3);
        due(x.lay(0, 2, 0), 1);
        due(x.lay(0, 0, MAX), 2);
        due(x.lay(0, 0, 0), 0);
        // what is held stays as it was
        x.lay(1, 1, 0);
        x.lay(2, 2, 0);
        x.set(0, 2, 20);
        x.turns(0, 5);
        x.mark(0, 0, 9);
        x.sheet(0, -1, 0);
        due(x.ask(1, 0), 50);
        due(x.item(2, 0), 0);
    }

    private static void ask() {
        DustySayings x = begin(37);
        due(x.ask(5, 0), BAD);
        due(x.ask(-1, 0), BAD);
        due(x.ask(0, 6), BAD);
        due(x.ask(0, -1), BAD);
        due(x.ask(0, 0), NOTHING);
        x.lay(0, 3, 1);
        due(x.ask(0, 0), KIND);
        x.sheet(0, 0, 1);
        x.lay(0, 2, 0);
        due(x.ask(0, 0), KIND);
        int[] worth = {30, 35, 69, 70, 34, 10};
        String[] isOf = {"100000", "110000", "101000", "110100", "101010", "100001"};
        for (int kind = 0; kind < 6; kind++) {
            x.saying(kind, 40, 0);
            x.set(kind, 2, 10);
            x.lay(1, 1, kind);
            for (int as = 0; as < 6; as++) {
                due(x.ask(1, as), isOf[kind].charAt(as) == '1' ? worth[kind] : KIND);
            }
        }
    }

    private static void item() {
        DustySayings x = begin(38);
        due(x.item(5, 0), BAD);
        due(x.item(-1, 0), BAD);
        due(x.item(0, -1), NOTHING);
        x.lay(0, 3, 1);
        due(x.item(0, 0), KIND);
        x.saying(0, 1, 1);
        x.lay(0, 1, 0);
        due(x.item(0, -1), KIND);
        x.sheet(0, 1, 2);
        x.mark(0, 0, -7);
        x.mark(0, 1, NONE);
        x.lay(0, 2, 0);
        due(x.item(0, 0), -7);
        due(x.item(0, 1), KIND);
        due(x.item(0, 2), INDEX);
        due(x.item(0, -1), INDEX);
        due(x.item(0, MAX), INDEX);
    }

    private static void rest() {
        DustySayings x = begin(39);
        due(x.rest(5, 0), BAD);
        due(x.rest(-1, 0), BAD);
        due(x.rest(0, 0), NOTHING);
        x.saying(0, 1, 1);
        x.lay(0, 1, 0);
        due(x.rest(0, 0), KIND);
        x.lay(0, 3, -17);
        due(x.rest(0, 5), -2);
        due(x.rest(0, -5), -2);
        due(x.rest(0, 0), NO);
        x.lay(0, 3, MIN);
        due(x.rest(0, -1), 0);
        due(x.rest(0, MIN), 0);
        due(x.rest(0, 1000), MIN % 1000);
    }

    private static void tell() {
        DustySayings x = begin(40);
        for (int i = 1; i <= 60; i++) {
            due(x.tell(MIN), i);
        }
        due(x.tell(0), FULL);
        due(x.count(6), 60);
    }

    private static void check() {
        DustySayings x = begin(41);
        x.tell(1);
        due(x.check(0), BAD);
        due(x.count(6), 0);
        x.tell(1);
        due(x.check(1), NO);
        due(x.count(6), 0);
        x.saying(5, 0, 0);
        x.set(0, 2, 5);
        x.saying(5, 0, 1);
        x.keep();
        x.set(0, 2, 50);
        // by the image: 1 dusted, 1 + 1; 2 dusted, 2 + 1; 2 dusted, 3 + 2
        int[] told = {1, 2, 2, 3, 2, 5};
        due(checked(x, 3, told, 6), 0);
        due(checked(x, 3, told, 5), 6);
        due(checked(x, 3, told, 0), 1);
        due(checked(x, 2, told, 6), 5);
        due(checked(x, 2, told, 4), 0);
        int[] wrong = {1, 2, 2, 4, 2, 5};
        due(checked(x, 3, wrong, 6), 4);
        due(checked(x, 31, told, 6), BAD);
        due(x.count(6), 0);
        due(x.count(1), 0);
        due(x.told(0, 2), 50);
        x.back();
        for (int i = 0; i < 100; i++) {
            x.evenings(i == 0 ? 98 : 100);
        }
        due(x.count(1), 9998);
        x.keep();
        int dusted = x.behind(1, 0);
        x.evenings(1);
        int[] last = {dusted, x.room(2)};
        due(checked(x, 30, last, 2), 0);
        x.keep();
        due(checked(x, 30, last, 0), 0);
        due(checked(x, 30, last, 1), 1);
    }

    private static int checked(DustySayings x, int n, int[] told, int many) {
        for (int i = 0; i < many; i++) {
            x.tell(told[i]);
        }
        return x.check(n);
    }

    private static void keep() {
        DustySayings x = begin(42);
        due(x.keep(), 0);
        x.deal(4);
        due(x.keep(), 4);
        due(x.keep(), 4);
        x.deal(3);
        due(x.back(), 4);
        due(x.count(0), 4);
    }

    private static void back() {
        DustySayings x = begin(43);
        due(x.back(), NO);
        x.deal(5);
        x.kicks(70);
        x.evenings(40);
        write(x, "fine 11");
        int[] was = new int[100];
        states(x, was);
        x.keep();
        for (int again = 0; again < 2; again++) {
            x.heed(0, 1);
            x.turns(1, 5);
            x.dusts(2);
            x.deal(2);
            x.kicks(3);
            x.evenings(30);
            due(write(x, again == 0 ? "fine 12" : "fee 13"), 1);
            x.sheet(0, 0, 2);
            x.lay(0, 3, 5);
            x.tell(4);
            x.feed(0, 0, 0);
            due(x.back(), 5);
            int[] is = new int[100];
            states(x, is);
            for (int i = 0; i < 100; i++) {
                due(is[i], was[i]);
            }
            due(x.fine(0), 11);
            due(x.why(1), NONE);
            due(x.count(5), 1);
            // these are not the image's
            due(x.count(6), again + 1);
            due(x.count(7), 12);
            due(x.rest(0, 10), 5);
            due(x.mark(0, 1, 1), 1);
        }
    }

    private static void states(DustySayings x, int[] row) {
        int at = 0;
        for (int i = 0; i < 7; i++) {
            for (int what = 0; what < 8; what++) {
                row[at++] = x.told(i, what);
            }
        }
        for (int corner = 0; corner < 6; corner++) {
            row[at++] = x.cornerOf(corner, 0);
        }
        for (int what = 0; what < 6; what++) {
            row[at++] = x.count(what);
        }
        row[at++] = x.count(8);
    }

    private static void count() {
        DustySayings x = begin(44);
        x.deal(6);
        x.kicks(100);
        x.set(0, 2, 99);
        x.set(1, 2, 99);
        x.evenings(50);
        write(x, "fee 1");
        x.tell(1);
        x.tell(1);
        x.feed(0, 0, 0);
        due(x.count(0), 6);
        due(x.count(1), 50);
        due(x.count(2), 100);
        due(x.count(3), x.room(0));
        due(x.count(4), x.room(1));
        due(x.count(4) > 0 ? 1 : 0, 1);
        due(x.count(5), 1);
        due(x.count(6), 2);
        due(x.count(7), 12);
        due(x.count(8), x.seed(1));
        due(x.count(9), BAD);
        due(x.count(-1), BAD);
        due(x.count(MIN), BAD);
    }
}
