/** The boundary sentences of the promises 31 to 39, with those of the terms' part 5. */
public final class SheetsEdgesTest extends Edges {
    private static final int SHORTS = 0, FLOATS = 1, MISSING = -1;

    public static void main(String[] args) {
        sheet();
        mark();
        markShorts();
        markFloats();
        pour();
        reads();
        copyRefuses();
        copy();
        layRefuses();
        lay();
        ask();
        item();
        rest();
        Due.finish();
    }

    private static void sheet() {
        DustySayings x = sentence(31, "BAD: sheet");
        outside(0, 3, BAD, v -> x.sheet(v, SHORTS, 1));
        is(x.sheet(0, SHORTS, 1), 1);
        is(x.sheet(3, SHORTS, 1), 1);
        outside(0, 3, BAD, v -> x.sheet(v, MISSING, 1));
        DustySayings y = sentence(31, "BAD: sort");
        outside(-1, 1, BAD, v -> y.sheet(0, v, 1));
        is(y.reads(0), NOTHING);
        sentence(31, "BAD: n above 24");
        is(y.sheet(0, SHORTS, 25), BAD);
        is(y.sheet(0, FLOATS, MAX), BAD);
        is(y.reads(0), NOTHING);
        is(y.sheet(0, SHORTS, 24), 24);
        is(y.sheet(0, FLOATS, 24), 24);
        sentence(31, "SIZE: n below 0");
        is(y.sheet(1, SHORTS, -1), SIZE);
        is(y.sheet(1, FLOATS, MIN), SIZE);
        is(y.reads(1), NOTHING);
        sentence(31, "BAD stands ahead of SIZE");
        is(y.sheet(4, SHORTS, -1), BAD);
        is(y.sheet(1, 2, -1), BAD);
        is(y.sheet(1, -2, -1), BAD);
        DustySayings none = sentence(31, "a row of 0 places is not MISSING");
        is(none.sheet(2, FLOATS, 0), 0);
        is(none.reads(2), NONE);
        is(none.mark(2, 0, 1), INDEX);
        sentence(31, "sort -1: MISSING, n any: 0");
        for (int n : new int[] {0, 7, 25, -1, MIN, MAX}) {
            none.sheet(2, SHORTS, 3);
            is(none.sheet(2, MISSING, n), 0);
            is(none.reads(2), NOTHING);
            is(none.sheet(2, MISSING, n), 0);
        }
        DustySayings z = sentence(31, "all 0, whatever was there");
        z.sheet(0, FLOATS, 3);
        row(z, 0, 5, NONE, -7);
        z.sheet(0, FLOATS, 3);
        isRow(z, 0, 0, 0, 0);
        row(z, 0, 5, NONE, -7);
        z.sheet(0, FLOATS, 1);
        z.sheet(0, SHORTS, 3);
        isRow(z, 0, 0, 0, 0);
        row(z, 0, 5, 6, 7);
        z.sheet(0, MISSING, 0);
        z.sheet(0, SHORTS, 4);
        isRow(z, 0, 0, 0, 0, 0);
    }

    private static void mark() {
        DustySayings x = sentence(32, "BAD: sheet");
        outside(0, 3, BAD, v -> x.mark(v, 0, 1));
        sentence(32, "NOTHING: the SHEET is MISSING");
        is(x.mark(0, 0, 1), NOTHING);
        is(x.mark(3, 0, 1), NOTHING);
        sentence(32, "NOTHING stands ahead of INDEX, KIND and BAD: v");
        is(x.mark(0, -1, NONE), NOTHING);
        is(x.mark(0, 0, MAX), NOTHING);
        sentence(32, "INDEX: there is no such place");
        x.sheet(0, SHORTS, 3);
        x.sheet(1, FLOATS, 24);
        x.sheet(2, FLOATS, 0);
        outside(0, 2, INDEX, v -> x.mark(0, v, 1));
        outside(0, 23, INDEX, v -> x.mark(1, v, 1));
        is(x.mark(2, 0, 1), INDEX);
        is(x.mark(0, 0, 1), 1);
        is(x.mark(0, 2, 1), 1);
        is(x.mark(1, 23, 1), 1);
        sentence(32, "INDEX stands ahead of KIND and BAD: v");
        is(x.mark(0, 3, NONE), INDEX);
        is(x.mark(1, 24, 100000), INDEX);
    }

    private static void markShorts() {
        DustySayings x = sentence(32, "of shorts its lowest 16 bits");
        x.sheet(0, SHORTS, 12);
        row(x, 0, 32767, 32768, 65535, 65536, 65537, -32768, -32769, -1, MAX, MIN, BAD, 100000);
        isRow(x, 0, 32767, -32768, -1, 0, 1, -32768, 32767, -1, -1, 0, (short) BAD, (short) 100000);
        sentence(32, "KIND: NONE in a row of shorts");
        is(x.mark(0, 0, NONE), KIND);
        is(x.mark(0, 0, NONE + 1), 1);
        is(x.mark(0, 1, NONE - 1), 1);
        is(x.mark(0, 2, NONE + 65536), 1);
        isRow(x, 0, (short) (NONE + 1), (short) (NONE - 1), (short) NONE, 0, 1, -32768, 32767, -1, -1, 0, (short) BAD,
                (short) 100000);
    }

    private static void markFloats() {
        DustySayings x = sentence(32, "of floats v, -99999 .. 99999");
        x.sheet(0, FLOATS, 4);
        is(x.mark(0, 0, 99999), 1);
        is(x.mark(0, 1, -99999), 1);
        is(x.mark(0, 2, 40000), 1);
        isRow(x, 0, 99999, -99999, 40000, 0);
        sentence(32, "BAD: v of floats");
        outside(-99999, 99999, BAD, v -> x.mark(0, 0, v));
        is(x.mark(0, 0, NONE + 1), BAD);
        is(x.mark(0, 0, NONE - 1), BAD);
        is(x.mark(0, 0, BAD), BAD);
        isRow(x, 0, 99999, -99999, 40000, 0);
        sentence(32, "NONE: NO NUMBER, until it is a number again");
        is(x.mark(0, 0, NONE), 1);
        isRow(x, 0, KIND, -99999, 40000, 0);
        is(x.mark(0, 0, 5), 1);
        isRow(x, 0, 5, -99999, 40000, 0);
    }

    private static void heeds(DustySayings x, int... want) {
        for (int corner = 0; corner <= 5; corner++) {
            is(x.cornerOf(corner, 0), want[corner]);
        }
    }

    private static void pour() {
        DustySayings x = sentence(33, "BAD: a SHEET below 0 or above 3");
        outside(0, 3, BAD, v -> x.pour(v));
        sentence(33, "NOTHING: the SHEET is MISSING");
        is(x.pour(0), NOTHING);
        is(x.pour(3), NOTHING);
        heeds(x, 50, 50, 50, 50, 50, 50);
        sentence(33, "each held within 0 and 99");
        x.sheet(0, FLOATS, 6);
        row(x, 0, -1, 0, 99, 100, -99999, 99999);
        is(x.pour(0), 6);
        heeds(x, 0, 0, 99, 99, 0, 99);
        x.sheet(0, SHORTS, 6);
        row(x, 0, -32768, 32767, 1, 98, -1, 100);
        is(x.pour(0), 3);
        heeds(x, 0, 99, 1, 98, 0, 99);
        sentence(33, "how many are otherwise then: as they are held");
        is(x.pour(0), 0);
        DustySayings y = sentence(33, "NO NUMBER: it stays");
        y.sheet(0, FLOATS, 6);
        row(y, 0, NONE, 1, NONE, 50, NONE, 6);
        is(y.pour(0), 2);
        heeds(y, 50, 1, 50, 50, 50, 6);
        DustySayings z = sentence(33, "beyond the SHEET: it stays");
        z.sheet(0, SHORTS, 0);
        is(z.pour(0), 0);
        heeds(z, 50, 50, 50, 50, 50, 50);
        z.sheet(0, SHORTS, 5);
        is(z.pour(0), 5);
        heeds(z, 0, 0, 0, 0, 0, 50);
        sentence(33, "beyond the CORNERS: places are left out");
        z.sheet(0, SHORTS, 24);
        z.mark(0, 6, 9);
        z.mark(0, 23, 9);
        is(z.pour(0), 1);
        heeds(z, 0, 0, 0, 0, 0, 0);
    }

    private static void reads() {
        DustySayings x = sentence(34, "BAD: a SHEET below 0 or above 3");
        outside(0, 3, BAD, v -> x.reads(v));
        sentence(34, "NOTHING: the SHEET is MISSING");
        is(x.reads(0), NOTHING);
        is(x.reads(3), NOTHING);
        sentence(34, "NONE: there is none, without places and without numbers");
        x.sheet(0, FLOATS, 0);
        is(x.reads(0), NONE);
        x.sheet(0, FLOATS, 24);
        for (int i = 0; i < 24; i++) {
            x.mark(0, i, NONE);
        }
        is(x.reads(0), NONE);
        sentence(34, "of places that are no SAYING all numbers are not, 0 too");
        x.mark(0, 23, 0);
        is(x.reads(0), 23);
        x.sheet(0, SHORTS, 1);
        is(x.reads(0), 0);
        DustySayings y = sentence(34, "the first place at which it is not the CORNER");
        for (int i = 0; i < 10; i++) {
            y.saying(SAYING, 50, i % 6);
        }
        y.sheet(0, FLOATS, 11);
        row(y, 0, 0, 1, 2, 3, 4, 5, 0, 1, 2, 3, NONE);
        is(y.reads(0), NONE);
        y.mark(0, 10, 4);
        is(y.reads(0), 10);
        y.mark(0, 9, 4);
        is(y.reads(0), 9);
        y.mark(0, 9, 99999);
        is(y.reads(0), 9);
        y.mark(0, 0, -1);
        is(y.reads(0), 0);
        y.mark(0, 0, NONE);
        is(y.reads(0), 9);
        DustySayings z = sentence(34, "fewer places than SAYINGS: the others are not read");
        z.saying(SAYING, 50, 2);
        z.saying(SAYING, 50, 3);
        z.sheet(0, SHORTS, 1);
        row(z, 0, 2);
        is(z.reads(0), NONE);
        DustySayings gone = sentence(34, "a SAYING that was there ahead of THE IMAGE's return is none");
        gone.keep();
        gone.saying(SAYING, 50, 0);
        gone.back();
        gone.sheet(0, SHORTS, 1);
        is(gone.reads(0), 0);
    }

    private static void copyRefuses() {
        DustySayings x = sentence(35, "BAD: from");
        x.sheet(0, SHORTS, 5);
        outside(0, 3, BAD, v -> x.copy(v, 0, 0, 0, 1));
        sentence(35, "BAD: to");
        outside(0, 3, BAD, v -> x.copy(0, 0, v, 0, 1));
        sentence(35, "BAD stands ahead of NOTHING");
        is(x.copy(4, 0, 1, 0, 1), BAD);
        is(x.copy(1, 0, 4, 0, 1), BAD);
        sentence(35, "NOTHING: one of them is MISSING, or both");
        is(x.copy(1, 0, 0, 0, 1), NOTHING);
        is(x.copy(0, 0, 1, 0, 1), NOTHING);
        is(x.copy(1, 0, 2, 0, 0), NOTHING);
        sentence(35, "NOTHING stands ahead of INDEX");
        is(x.copy(1, -1, 0, -1, -1), NOTHING);
        sentence(35, "KIND: they are not of one sort");
        x.sheet(1, FLOATS, 5);
        is(x.copy(0, 0, 1, 0, 1), KIND);
        is(x.copy(1, 0, 0, 0, 1), KIND);
        is(x.copy(0, 0, 1, 0, 0), KIND);
        sentence(35, "KIND stands ahead of INDEX");
        is(x.copy(0, -1, 1, 9, -1), KIND);
        sentence(35, "INDEX: from its place on there are not so many");
        x.sheet(2, SHORTS, 3);
        outside(0, 4, INDEX, v -> x.copy(0, v, 2, 0, 1));
        is(x.copy(0, 3, 2, 0, 3), INDEX);
        is(x.copy(0, 2, 2, 0, 3), 3);
        sentence(35, "INDEX: from the other's place on there are not so many");
        outside(0, 2, INDEX, v -> x.copy(0, 0, 2, v, 1));
        is(x.copy(0, 0, 2, 1, 3), INDEX);
        is(x.copy(0, 0, 2, 0, 4), INDEX);
        is(x.copy(0, 0, 2, 1, 2), 2);
        sentence(35, "INDEX: many is below 0");
        is(x.copy(0, 0, 2, 0, -1), INDEX);
        is(x.copy(0, 1, 2, 1, -1), INDEX);
        is(x.copy(0, 0, 2, 0, MIN), INDEX);
        sentence(35, "INDEX: numbers farthest out, though they wrap together");
        is(x.copy(0, 0, 2, 0, MAX), INDEX);
        is(x.copy(0, MAX, 2, 0, MAX), INDEX);
        is(x.copy(0, 0, 2, MAX, MAX), INDEX);
        is(x.copy(0, MIN, 2, 0, MIN), INDEX);
        is(x.copy(0, MAX, 2, 0, 1), INDEX);
        is(x.copy(0, MIN, 2, MIN, MAX), INDEX);
    }

    private static void copy() {
        DustySayings x = sentence(35, "no places at all come from and to any place, and right behind the last");
        x.sheet(0, SHORTS, 5);
        row(x, 0, 1, 2, 3, 4, 5);
        x.sheet(1, SHORTS, 0);
        is(x.copy(0, 0, 1, 0, 0), 0);
        is(x.copy(0, 5, 1, 0, 0), 0);
        is(x.copy(1, 0, 0, 5, 0), 0);
        is(x.copy(0, 6, 1, 0, 0), INDEX);
        is(x.copy(0, -1, 1, 0, 0), INDEX);
        is(x.copy(0, 0, 1, 1, 0), INDEX);
        is(x.copy(0, 0, 1, -1, 0), INDEX);
        isRow(x, 0, 1, 2, 3, 4, 5);
        sentence(35, "of the same SHEET, as they were: forward");
        is(x.copy(0, 0, 0, 1, 4), 4);
        isRow(x, 0, 1, 1, 2, 3, 4);
        sentence(35, "of the same SHEET, as they were: backward");
        row(x, 0, 1, 2, 3, 4, 5);
        is(x.copy(0, 1, 0, 0, 4), 4);
        isRow(x, 0, 2, 3, 4, 5, 5);
        is(x.copy(0, 0, 0, 0, 5), 5);
        isRow(x, 0, 2, 3, 4, 5, 5);
        DustySayings y = sentence(35, "all 24 places, NO NUMBER too");
        y.sheet(0, FLOATS, 24);
        y.sheet(1, FLOATS, 24);
        int[] want = new int[24];
        for (int i = 0; i < 24; i++) {
            y.mark(0, i, i % 5 == 0 ? NONE : i * 4000);
            want[i] = i % 5 == 0 ? KIND : i * 4000;
        }
        is(y.copy(0, 0, 1, 0, 24), 24);
        isRow(y, 1, want);
        sentence(35, "the SHEET that they come from stays");
        y.mark(1, 1, 7);
        isRow(y, 0, want);
    }

    private static void layRefuses() {
        DustySayings x = sentence(36, "BAD: slot");
        outside(0, 4, BAD, v -> x.lay(v, 3, 1));
        outside(0, 4, BAD, v -> x.lay(v, 0, 1));
        sentence(36, "BAD: thing");
        outside(0, 3, BAD, v -> x.lay(0, v, 0));
        sentence(36, "BAD: k is no SAYING");
        is(x.lay(0, 1, 0), BAD);
        x.saying(SAYING, 50, 0);
        outside(0, 0, BAD, v -> x.lay(0, 1, v));
        is(x.lay(0, 1, 10), BAD);
        sentence(36, "BAD: k is no SHEET");
        outside(0, 3, BAD, v -> x.lay(0, 2, v));
        sentence(36, "BAD stands ahead of NOTHING");
        is(x.lay(5, 2, 0), BAD);
        sentence(36, "NOTHING: that SHEET is MISSING");
        is(x.lay(0, 2, 0), NOTHING);
        is(x.lay(0, 2, 3), NOTHING);
        sentence(36, "what was refused was not laid");
        is(x.rest(0, 1), NOTHING);
        sentence(36, "a SHEET of 0 places may be laid");
        x.sheet(3, FLOATS, 0);
        is(x.lay(0, 2, 3), 0);
        is(x.item(0, 0), INDEX);
        sentence(36, "nothing, and a number, are laid with any k");
        for (int k : new int[] {0, -1, MIN, MAX, NONE, BAD}) {
            x.lay(1, 3, k);
            is(x.rest(1, MIN), k == MIN ? 0 : k);
            is(x.lay(1, 0, k), 3);
            is(x.lay(1, 0, k), 0);
            is(x.rest(1, 1), NOTHING);
        }
    }

    private static void lay() {
        DustySayings x = sentence(36, "what it held");
        x.saying(SAYING, 50, 0);
        x.sheet(0, SHORTS, 2);
        is(x.lay(4, 1, 0), 0);
        is(x.lay(4, 1, 0), 1);
        is(x.lay(4, 2, 0), 1);
        is(x.lay(4, 3, 0), 2);
        is(x.lay(4, 0, 0), 3);
        is(x.lay(4, 0, 0), 0);
        for (int slot = 0; slot < 4; slot++) {
            is(x.lay(slot, 0, 0), 0);
        }
        sentence(36, "a SAYING as it is then, for good");
        x.lay(0, 1, 0);
        x.set(0, WIT, 99);
        x.set(0, DUST, 98);
        x.turns(0, REMARK);
        is(x.ask(0, SAYING), 50);
        is(x.ask(0, REMARK), KIND);
        x.lay(1, 1, 0);
        is(x.ask(1, REMARK), 98);
        sentence(36, "a SAYING for good, though there is none any more");
        DustySayings y = new DustySayings();
        y.keep();
        y.saying(SAYING, 50, 0);
        y.lay(0, 1, 0);
        y.back();
        is(y.ask(0, SAYING), 50);
        sentence(36, "a SHEET: a row of its own, as it was then");
        row(x, 0, 7, 8);
        x.lay(2, 2, 0);
        row(x, 0, 1, 1);
        x.lay(3, 2, 0);
        is(x.item(2, 0), 7);
        is(x.item(2, 1), 8);
        is(x.item(3, 1), 1);
        x.sheet(0, MISSING, 0);
        is(x.item(2, 1), 8);
        x.sheet(0, FLOATS, 24);
        is(x.item(2, 1), 8);
        is(x.item(2, 2), INDEX);
    }

    private static void ask() {
        DustySayings x = sentence(37, "BAD: a SLOT below 0 or above 4");
        outside(0, 4, BAD, v -> x.ask(v, 0));
        sentence(37, "BAD: a KIND below 0 or above 5");
        outside(0, 5, BAD, v -> x.ask(0, v));
        sentence(37, "BAD stands ahead of NOTHING and KIND");
        is(x.ask(0, 6), BAD);
        x.lay(0, 3, 1);
        is(x.ask(0, 6), BAD);
        sentence(37, "NOTHING: the SLOT holds nothing");
        is(x.ask(1, 0), NOTHING);
        x.lay(0, 0, 1);
        is(x.ask(0, 0), NOTHING);
        sentence(37, "KIND: it is no SAYING");
        x.sheet(0, SHORTS, 2);
        x.lay(0, 2, 0);
        is(x.ask(0, 0), KIND);
        x.lay(0, 3, 0);
        is(x.ask(0, 0), KIND);
        x.saying(SAYING, 50, 0);
        x.lay(0, 1, 0);
        x.lay(0, 3, 0);
        is(x.ask(0, 0), KIND);
        sentence(37, "KIND: not of that KIND, nor of one under it");
        x.saying(SALLY, 50, 0);
        x.saying(DRONE, 50, 0);
        x.saying(SERMON, 50, 0);
        int[][] want = {{0, 50, KIND, KIND, KIND, KIND, KIND}, {1, 110, 110, KIND, 110, KIND, KIND},
            {2, 24, KIND, 24, KIND, 24, KIND}, {3, 49, KIND, 49, KIND, KIND, KIND}};
        for (int[] w : want) {
            x.lay(0, 1, w[0]);
            for (int kind = SAYING; kind <= REMARK; kind++) {
                is(x.ask(0, kind), w[1 + kind]);
            }
        }
    }

    private static void item() {
        DustySayings x = sentence(38, "BAD: slot");
        outside(0, 4, BAD, v -> x.item(v, 0));
        sentence(38, "NOTHING: the SLOT holds nothing");
        is(x.item(0, 0), NOTHING);
        is(x.item(4, -1), NOTHING);
        sentence(38, "KIND: it is no SHEET");
        x.saying(SAYING, 50, 0);
        x.lay(0, 1, 0);
        x.lay(1, 3, 7);
        is(x.item(0, 0), KIND);
        is(x.item(1, 0), KIND);
        sentence(38, "KIND: it is no SHEET, stands ahead of INDEX");
        is(x.item(0, -1), KIND);
        is(x.item(1, 24), KIND);
        sentence(38, "KIND: it is no SHEET, though it was one");
        x.sheet(0, FLOATS, 3);
        row(x, 0, -99999, NONE, 99999);
        x.lay(1, 2, 0);
        is(x.item(1, 0), -99999);
        x.lay(1, 3, 7);
        is(x.item(1, 0), KIND);
        x.lay(1, 0, 7);
        is(x.item(1, 0), NOTHING);
        sentence(38, "INDEX: there is no such place");
        x.lay(2, 2, 0);
        outside(0, 2, INDEX, v -> x.item(2, v));
        is(x.item(2, 2), 99999);
        sentence(38, "INDEX: there is no such place in a shorter one laid over a longer one");
        x.sheet(1, FLOATS, 24);
        x.lay(2, 2, 1);
        is(x.item(2, 23), 0);
        x.lay(2, 2, 0);
        is(x.item(2, 3), INDEX);
        is(x.item(2, 23), INDEX);
        sentence(38, "KIND: NO NUMBER");
        is(x.item(2, 1), KIND);
    }

    private static void rest() {
        DustySayings x = sentence(39, "BAD: slot");
        outside(0, 4, BAD, v -> x.rest(v, 1));
        sentence(39, "NOTHING: the SLOT holds nothing");
        is(x.rest(0, 1), NOTHING);
        is(x.rest(4, 0), NOTHING);
        sentence(39, "KIND: it is no number");
        x.saying(SAYING, 50, 0);
        x.lay(0, 1, 0);
        x.sheet(0, SHORTS, 1);
        x.lay(1, 2, 0);
        is(x.rest(0, 1), KIND);
        is(x.rest(1, 1), KIND);
        sentence(39, "KIND stands ahead of NO");
        is(x.rest(0, 0), KIND);
        is(x.rest(1, 0), KIND);
        sentence(39, "NO: n is 0");
        x.lay(2, 3, 17);
        is(x.rest(2, 0), NO);
        x.lay(2, 3, 0);
        is(x.rest(2, 0), NO);
        is(x.rest(2, 5), 0);
        sentence(39, "the rest has the number's sign, as / cuts towards 0");
        x.lay(2, 3, 17);
        is(x.rest(2, 5), 2);
        is(x.rest(2, -5), 2);
        is(x.rest(2, 17), 0);
        is(x.rest(2, 18), 17);
        x.lay(2, 3, -17);
        is(x.rest(2, 5), -2);
        is(x.rest(2, -5), -2);
        sentence(39, "numbers farthest out");
        x.lay(2, 3, MIN);
        is(x.rest(2, -1), 0);
        is(x.rest(2, 1), 0);
        is(x.rest(2, MIN), 0);
        is(x.rest(2, MAX), -1);
        x.lay(2, 3, MAX);
        is(x.rest(2, MIN), MAX);
        is(x.rest(2, MAX), 0);
    }
}
