/** The boundary sentences of the promises 1 to 13, with those of the terms' part 1 and of the draws. */
public final class SayingsEdgesTest extends Edges {
    public static void main(String[] args) {
        newObject();
        saying();
        toldRefuses();
        gathers();
        draws();
        worth();
        as();
        turns();
        set();
        moves();
        dusts();
        heed();
        cornerOf();
        kicks();
        deal();
        seed();
        Due.finish();
    }

    private static void newObject() {
        DustySayings x = sentence(1, "no SAYINGS");
        is(x.count(0), 0);
        is(x.told(0, 0), BAD);
        is(x.room(4), 0);
        x = sentence(1, "CORNERS, each with HEED 50 at first");
        for (int corner = 0; corner <= 5; corner++) {
            is(x.cornerOf(corner, 0), 50);
        }
        x = sentence(1, "KICKS is 0 at first");
        is(x.count(2), 0);
        is(x.kicks(0), 0);
        x = sentence(1, "DUSTED, FOUND are 0 at first");
        is(x.room(0), 0);
        is(x.room(1), 0);
        is(x.count(3), 0);
        is(x.count(4), 0);
        x = sentence(1, "THE EVENING is 0 at first");
        is(x.count(1), 0);
        x = sentence(1, "z is 1 at first");
        is(x.count(8), 1);
        x = sentence(1, "no TEXTS, no bytes, no numbers that wait at first");
        is(x.count(5), 0);
        is(x.count(6), 0);
        is(x.count(7), 0);
        for (int key = 0; key <= 2; key++) {
            is(x.why(key), NONE);
        }
        x = sentence(1, "SHEETS are MISSING at first");
        for (int sheet = 0; sheet <= 3; sheet++) {
            is(x.reads(sheet), NOTHING);
        }
        x = sentence(1, "SLOTS hold nothing at first");
        for (int slot = 0; slot <= 4; slot++) {
            is(x.rest(slot, 1), NOTHING);
        }
        x = sentence(1, "there is no IMAGE at first");
        is(x.back(), NO);
    }

    private static void saying() {
        DustySayings x = sentence(2, "BAD: a KIND below 0 or above 5");
        outside(0, 5, BAD, v -> x.saying(v, 50, 0));
        is(x.saying(0, 50, 0), 0);
        is(x.saying(5, 50, 0), 1);
        DustySayings y = sentence(2, "BAD: a WIT below 0 or above 99");
        outside(0, 99, BAD, v -> y.saying(0, v, 0));
        is(y.saying(0, 0, 0), 0);
        is(y.saying(0, 99, 0), 1);
        is(y.told(0, WIT), 0);
        is(y.told(1, WIT), 99);
        DustySayings z = sentence(2, "BAD: a CORNER below 0 or above 5");
        outside(0, 5, BAD, v -> z.saying(0, 50, v));
        is(z.saying(0, 50, 0), 0);
        is(z.saying(0, 50, 5), 1);
        is(z.told(0, CORNER), 0);
        is(z.told(1, CORNER), 5);
        DustySayings f = sentence(2, "FULL: 10 at most, numbered from 0");
        for (int i = 0; i < 10; i++) {
            is(f.saying(0, 50, 0), i);
        }
        is(f.saying(0, 50, 0), FULL);
        is(f.count(0), 10);
        sentence(2, "BAD stands ahead of FULL");
        is(f.saying(6, 50, 0), BAD);
        is(f.saying(0, 100, 0), BAD);
        is(f.saying(0, 50, 6), BAD);
        DustySayings n = sentence(2, "DUST, TURNED are 0 at first, in a place that was used before too");
        n.keep();
        withSaying(n, 0, 50, 9, 0);
        n.dusts(0);
        n.set(0, DUST, 9);
        n.back();
        is(n.saying(0, 50, 0), 0);
        is(n.told(0, DUST), 0);
        is(n.told(0, TURNED), 0);
    }

    private static void toldRefuses() {
        DustySayings x = sentence(3, "BAD: there is no such SAYING");
        is(x.told(0, 0), BAD);
        x.saying(0, 50, 0);
        is(x.told(0, 0), 0);
        outside(0, 0, BAD, v -> x.told(v, 0));
        is(x.told(9, 0), BAD);
        is(x.told(10, 0), BAD);
        sentence(3, "BAD: what is below 0 or above 7");
        outside(0, 7, BAD, v -> x.told(0, v));
        is(x.told(0, 7), 50);
        DustySayings y = sentence(3, "BAD: a SAYING that was there ahead of an IMAGE's return");
        y.keep();
        y.saying(0, 50, 0);
        y.back();
        is(y.told(0, 0), BAD);
    }

    private static void gathers() {
        DustySayings x = sentence(3, "PLAIN: a tenth (cut) of 99 less HEED");
        x.saying(SAYING, 50, 2);
        int[][] plain = {{99, 0}, {90, 0}, {89, 1}, {80, 1}, {79, 2}, {50, 4}, {10, 8}, {9, 9}, {0, 9}};
        for (int[] p : plain) {
            x.heed(2, p[0]);
            is(x.told(0, GATHERS), p[1]);
        }
        plainByText("0-1", 0);
        plainByText("0", 0);
        plainByText("1", 1);
        plainByText("98", 98);
        plainByText("99", 99);
        plainByText("100", 99);
        plainByText("9999*9999", 99);
        plainByText("0-9999", 0);
        plainByText("0-8192*8192*32", 0);
        plainByText("8192*8192*32-1", 99);
        x = sentence(3, "QUIP: 0 at least, less 2 for each other QUIP or SALLY");
        x.heed(0, 49);
        x.saying(QUIP, 50, 0);
        is(x.told(0, GATHERS), 5);
        x.saying(SALLY, 50, 0);
        is(x.told(0, GATHERS), 3);
        x.saying(QUIP, 50, 0);
        is(x.told(0, GATHERS), 1);
        x.saying(QUIP, 50, 0);
        is(x.told(0, GATHERS), 0);
        is(x.told(1, GATHERS), 0);
        x.heed(0, 39);
        is(x.told(0, GATHERS), 0);
        x.heed(0, 29);
        is(x.told(0, GATHERS), 1);
        x = sentence(3, "QUIP: none is taken away for itself, for other KINDS, in other CORNERS");
        x.saying(QUIP, 50, 0);
        x.saying(SAYING, 50, 0);
        x.saying(SERMON, 50, 0);
        x.saying(DRONE, 50, 0);
        x.saying(REMARK, 50, 0);
        x.saying(QUIP, 50, 1);
        x.saying(SALLY, 50, 5);
        is(x.told(0, GATHERS), 4);
        x = sentence(3, "SALLY: 0, if its WIT is above 80");
        x.saying(SALLY, 80, 0);
        is(x.told(0, GATHERS), 4);
        x.set(0, WIT, 81);
        is(x.told(0, GATHERS), 0);
        x.set(0, WIT, 99);
        is(x.told(0, GATHERS), 0);
        write(x, "bloom 99");
        is(x.told(0, GATHERS), 0);
        x.turns(0, QUIP);
        is(x.told(0, GATHERS), 99);
        x = sentence(3, "SERMON: as SAYING, and 2, from 0 up to above 99; DRONE: twice as SERMON");
        x.saying(SERMON, 50, 0);
        x.saying(DRONE, 50, 0);
        x.heed(0, 99);
        is(x.told(0, GATHERS), 2);
        is(x.told(1, GATHERS), 4);
        write(x, "bloom 9999");
        is(x.told(0, GATHERS), 101);
        is(x.told(1, GATHERS), 202);
        write(x, "bloom 0-1");
        is(x.told(0, GATHERS), 2);
        is(x.told(1, GATHERS), 4);
        x = sentence(3, "REMARK: 1, whatever HEED is and bloom gives");
        x.saying(REMARK, 50, 0);
        x.heed(0, 99);
        is(x.told(0, GATHERS), 1);
        x.heed(0, 0);
        is(x.told(0, GATHERS), 1);
        write(x, "bloom 99");
        is(x.told(0, GATHERS), 1);
        write(x, "bloom 0");
        is(x.told(0, GATHERS), 1);
    }

    private static void plainByText(String expression, int want) {
        DustySayings x = sentence(3, "PLAIN: what bloom gives, held within 0 and 99: " + expression);
        x.saying(SAYING, 50, 0);
        is(write(x, "bloom " + expression), 0);
        is(x.told(0, GATHERS), want);
    }

    private static void drawn(int kind, int wit, int dust, int want) {
        DustySayings x = new DustySayings();
        withSaying(x, kind, wit, dust, 0);
        is(x.told(0, DRAWS), want);
    }

    private static void draws() {
        sentence(3, "DRAWS of a SAYING: a tenth (cut) of WIT, less a tenth (cut) of DUST, each by itself");
        drawn(SAYING, 0, 0, 0);
        drawn(SAYING, 9, 0, 0);
        drawn(SAYING, 10, 0, 1);
        drawn(SAYING, 99, 0, 9);
        drawn(SAYING, 0, 9, 0);
        drawn(SAYING, 0, 10, -1);
        drawn(SAYING, 20, 19, 1);
        drawn(SAYING, 19, 20, -1);
        sentence(3, "DRAWS may be below 0");
        drawn(SAYING, 0, 99, -9);
        drawn(QUIP, 0, 99, -8);
        drawn(SALLY, 0, 99, -16);
        drawn(SERMON, 0, 99, -11);
        drawn(DRONE, 0, 99, -11);
        drawn(QUIP, 0, 10, 0);
        drawn(SALLY, 0, 10, 0);
        sentence(3, "DRAWS of a REMARK: 0");
        drawn(REMARK, 99, 0, 0);
        drawn(REMARK, 0, 99, 0);
        DustySayings x = sentence(3, "DRAWS of a DRONE: less how many other SERMONS or DRONES are in its CORNER");
        x.saying(DRONE, 50, 1);
        is(x.told(0, DRAWS), 3);
        x.saying(SERMON, 50, 1);
        is(x.told(0, DRAWS), 2);
        x.saying(DRONE, 50, 1);
        is(x.told(0, DRAWS), 1);
        x.saying(SAYING, 50, 1);
        x.saying(QUIP, 50, 1);
        x.saying(SALLY, 50, 1);
        x.saying(REMARK, 50, 1);
        x.saying(SERMON, 50, 0);
        x.saying(DRONE, 50, 2);
        is(x.told(0, DRAWS), 1);
        is(x.told(1, DRAWS), 3);
        is(x.told(8, DRAWS), 3);
    }

    private static void worthIs(int kind, int wit, int dust, int want) {
        DustySayings x = new DustySayings();
        withSaying(x, kind, wit, dust, 0);
        is(x.told(0, WORTH), want);
        x.lay(0, 1, 0);
        is(x.ask(0, kind), want);
    }

    private static void worth() {
        sentence(3, "WORTH of a SAYING: WIT less DUST (0 at least)");
        worthIs(SAYING, 10, 9, 1);
        worthIs(SAYING, 10, 10, 0);
        worthIs(SAYING, 10, 11, 0);
        worthIs(SAYING, 0, 99, 0);
        worthIs(SAYING, 99, 0, 99);
        sentence(3, "WORTH of those above it counts from what is 0 at least");
        worthIs(QUIP, 0, 99, 5);
        worthIs(SALLY, 0, 99, 10);
        worthIs(SERMON, 0, 99, 99);
        worthIs(QUIP, 99, 0, 104);
        worthIs(SALLY, 99, 0, 208);
        worthIs(SERMON, 99, 0, 0);
        sentence(3, "WORTH of a DRONE: half (cut) of as SERMON");
        worthIs(DRONE, 0, 99, 49);
        worthIs(DRONE, 1, 0, 49);
        worthIs(DRONE, 2, 0, 48);
        worthIs(DRONE, 98, 0, 0);
        worthIs(DRONE, 97, 0, 1);
        worthIs(DRONE, 99, 0, 0);
        sentence(3, "WORTH of a REMARK: DUST");
        worthIs(REMARK, 99, 0, 0);
        worthIs(REMARK, 0, 99, 99);
    }

    private static void as() {
        DustySayings x = sentence(4, "BAD: saying");
        is(x.as(0, 0), BAD);
        x.saying(SALLY, 50, 0);
        outside(0, 0, BAD, v -> x.as(v, 0));
        is(x.as(9, 0), BAD);
        is(x.as(10, 0), BAD);
        sentence(4, "BAD: kind");
        outside(0, 5, BAD, v -> x.as(0, v));
        sentence(4, "KIND: it is not of that KIND, nor of one under it");
        is(x.as(0, SAYING), 50);
        is(x.as(0, QUIP), 50);
        is(x.as(0, SERMON), KIND);
        is(x.as(0, SALLY), 50);
        is(x.as(0, DRONE), KIND);
        is(x.as(0, REMARK), KIND);
        x.turns(0, QUIP);
        is(x.as(0, SALLY), KIND);
        x.turns(0, DRONE);
        is(x.as(0, SERMON), 50);
        is(x.as(0, QUIP), KIND);
        x.turns(0, SERMON);
        is(x.as(0, DRONE), KIND);
        x.turns(0, REMARK);
        is(x.as(0, REMARK), 50);
        is(x.as(0, SAYING), 50);
        is(x.as(0, QUIP), KIND);
        x.turns(0, SAYING);
        for (int kind = QUIP; kind <= REMARK; kind++) {
            is(x.as(0, kind), KIND);
        }
        sentence(4, "BAD stands ahead of KIND");
        is(x.as(1, SALLY), BAD);
    }

    private static void turns() {
        DustySayings x = sentence(5, "BAD: there is no such SAYING");
        is(x.turns(0, 0), BAD);
        x.saying(SALLY, 50, 0);
        outside(0, 0, BAD, v -> x.turns(v, 0));
        is(x.turns(10, 0), BAD);
        sentence(5, "BAD: a KIND below 0 or above 5");
        outside(0, 5, BAD, v -> x.turns(0, v));
        is(x.told(0, 0), SALLY);
        is(x.turns(0, 5), SALLY);
        is(x.turns(0, 0), 5);
        is(x.turns(0, 0), 0);
    }

    private static void set() {
        DustySayings x = sentence(6, "BAD: there is no such SAYING");
        is(x.set(0, WIT, 1), BAD);
        x.saying(SAYING, 50, 0);
        outside(0, 0, BAD, v -> x.set(v, WIT, 1));
        is(x.set(10, DUST, 1), BAD);
        sentence(6, "BAD: what is neither 1 nor 2");
        outside(1, 2, BAD, v -> x.set(0, v, 1));
        is(x.told(0, 0), SAYING);
        is(x.told(0, CORNER), 0);
        sentence(6, "BAD: a WIT below 0 or above 99");
        outside(0, 99, BAD, v -> x.set(0, WIT, v));
        is(x.set(0, WIT, 0), 50);
        is(x.set(0, WIT, 99), 0);
        is(x.set(0, WIT, 99), 99);
        sentence(6, "BAD: a DUST below 0 or above 99");
        outside(0, 99, BAD, v -> x.set(0, DUST, v));
        is(x.set(0, DUST, 99), 0);
        is(x.set(0, DUST, 0), 99);
        is(x.set(0, DUST, 0), 0);
        sentence(6, "DUST becomes 0 without its being GONE OVER");
        is(x.told(0, TURNED), 0);
        is(x.room(0), 0);
    }

    private static void moves() {
        DustySayings x = sentence(7, "BAD: there is no such SAYING");
        is(x.moves(0, 0), BAD);
        x.saying(SAYING, 50, 3);
        outside(0, 0, BAD, v -> x.moves(v, 0));
        is(x.moves(10, 0), BAD);
        sentence(7, "BAD: a CORNER below 0 or above 5");
        outside(0, 5, BAD, v -> x.moves(0, v));
        is(x.moves(0, 0), 3);
        is(x.moves(0, 5), 0);
        is(x.moves(0, 5), 5);
        is(x.told(0, CORNER), 5);
    }

    private static void dusts() {
        DustySayings x = sentence(8, "BAD: there is no such SAYING");
        is(x.dusts(0), BAD);
        x.saying(SAYING, 50, 3);
        outside(0, 0, BAD, v -> x.dusts(v));
        is(x.dusts(10), BAD);
        sentence(8, "TO GO OVER: with DUST 0 nothing is more");
        is(x.dusts(0), 0);
        is(x.told(0, TURNED), 0);
        is(x.room(0), 0);
        sentence(8, "TO GO OVER: with DUST above 0 it is 0 from then on, TURNED, DUSTED are 1 more");
        x.set(0, DUST, 1);
        is(x.dusts(0), 1);
        is(x.told(0, DUST), 0);
        is(x.told(0, TURNED), 1);
        is(x.room(0), 1);
        x.set(0, DUST, 99);
        is(x.dusts(0), 99);
        is(x.told(0, DUST), 0);
        is(x.told(0, TURNED), 2);
        is(x.room(0), 2);
        sentence(8, "a BURIED one that is GONE OVER is not FOUND");
        is(x.room(1), 0);
        is(x.told(0, CORNER), 3);
    }

    private static void heed() {
        DustySayings x = sentence(9, "BAD: a CORNER below 0 or above 5");
        outside(0, 5, BAD, v -> x.heed(v, 1));
        is(x.heed(0, 1), 50);
        is(x.heed(5, 2), 50);
        sentence(9, "BAD: a HEED below 0 or above 99");
        outside(0, 99, BAD, v -> x.heed(0, v));
        is(x.heed(0, 0), 1);
        is(x.heed(0, 99), 0);
        is(x.heed(0, 99), 99);
        is(x.cornerOf(5, 0), 2);
    }

    private static void cornerOf() {
        DustySayings x = sentence(10, "BAD: a CORNER below 0 or above 5");
        outside(0, 5, BAD, v -> x.cornerOf(v, 0));
        sentence(10, "BAD: what is below 0 or above 4");
        outside(0, 4, BAD, v -> x.cornerOf(0, v));
        sentence(10, "a CORNER without SAYINGS: no set, no WORTH, none BURIED, nothing drawn");
        x.saying(SAYING, 50, 4);
        for (int what = 1; what <= 4; what++) {
            is(x.cornerOf(5, what), 0);
        }
        DustySayings y = sentence(10, "SAYINGS in it, as a set: the tenth is bit 9");
        for (int i = 0; i < 10; i++) {
            y.saying(SAYING, 10, i == 0 || i == 9 ? 5 : 0);
        }
        is(y.cornerOf(5, 1), 513);
        is(y.cornerOf(0, 1), 510);
        sentence(10, "how many of them are BURIED: with DUST 99, not 98");
        y.set(0, DUST, 99);
        y.set(9, DUST, 98);
        y.set(1, DUST, 99);
        is(y.cornerOf(5, 3), 1);
        sentence(10, "what those that are not BURIED DRAW, as they are: below 0, above 99");
        is(y.cornerOf(5, 4), -8);
        y.heed(5, 0);
        is(y.cornerOf(5, 4), -8);
        DustySayings z = sentence(10, "WORTH, DRAWS together go above 99");
        for (int i = 0; i < 10; i++) {
            z.saying(SALLY, 99, 2);
        }
        is(z.cornerOf(2, 2), 2080);
        is(z.cornerOf(2, 4), 200);
        sentence(10, "WORTH counts those that are BURIED too");
        z.turns(0, REMARK);
        z.set(0, DUST, 99);
        is(z.cornerOf(2, 2), 9 * 208 + 99);
        is(z.cornerOf(2, 3), 1);
        is(z.cornerOf(2, 4), 180);
    }

    private static void kicks() {
        DustySayings x = sentence(11, "BAD: KICKS below 0 or above 100");
        outside(0, 100, BAD, v -> x.kicks(v));
        is(x.kicks(100), 0);
        is(x.kicks(0), 100);
        is(x.kicks(0), 0);
    }

    private static void dealt(DustySayings x, int i, int kind, int wit, int dust, int corner) {
        is(x.told(i, 0), kind);
        is(x.told(i, WIT), wit);
        is(x.told(i, DUST), dust);
        is(x.told(i, CORNER), corner);
        is(x.told(i, TURNED), 0);
    }

    private static void deal() {
        DustySayings x = sentence(12, "BAD: n below 1 or above 10");
        outside(1, 10, BAD, v -> x.deal(v));
        is(x.count(0), 0);
        is(x.count(8), 1);
        is(x.deal(10), 10);
        DustySayings y = sentence(12, "as many as there is room for");
        for (int i = 0; i < 8; i++) {
            y.saying(SAYING, 50, 0);
        }
        is(y.deal(3), 2);
        is(y.count(0), 10);
        is(y.deal(10), 0);
        sentence(12, "no draws for others");
        int z = 1;
        for (int i = 0; i < 8; i++) {
            z = z * 1103515245 + 12345;
        }
        is(y.count(8), z);
        is(y.deal(1), 0);
        is(y.count(8), z);
        sentence(12, "BAD stands although there is no room");
        is(y.deal(0), BAD);
        is(y.deal(11), BAD);
        // worked out by hand: z, and z >>> 8, of the four draws
        DustySayings a = sentence(12, "the rests by 6, 100, 60, 6 of draws from z 1");
        a.deal(1);
        dealt(a, 0, 2, 32, 36, 5);
        is(a.count(8), -999580867);
        DustySayings b = sentence(12, "a draw from a z below 0: an int that wraps, >>> 8");
        b.seed(-1);
        b.deal(1);
        dealt(b, 0, 1, 28, 39, 3);
        is(b.count(8), -396452581);
        b.seed(MAX);
        b.deal(1);
        dealt(b, 1, 5, 36, 47, 1);
        is(b.count(8), 1751031067);
        b.seed(MIN);
        b.deal(1);
        dealt(b, 2, 2, 30, 7, 2);
        is(b.count(8), 1449466924);
        b.seed(0);
        b.deal(1);
        dealt(b, 3, 0, 38, 15, 4);
        is(b.count(8), -698016724);
        DustySayings n = sentence(12, "TURNED is 0 at first, in a place that was used before too");
        n.keep();
        withSaying(n, 0, 50, 9, 0);
        n.dusts(0);
        n.back();
        n.deal(1);
        dealt(n, 0, 2, 32, 36, 5);
    }

    private static void seed() {
        DustySayings x = sentence(13, "z becomes v, any int");
        int was = 1;
        for (int v : new int[] {0, -1, MIN, MAX, BAD, NONE, 1}) {
            is(x.seed(v), was);
            is(x.count(8), v);
            was = v;
        }
    }
}
