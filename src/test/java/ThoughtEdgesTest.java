/** The boundary sentences of the promises 16 to 25, with those of the terms' part 3. */
public final class ThoughtEdgesTest extends Edges {
    public static void main(String[] args) {
        behind();
        beyondTheLastEvening();
        sinks();
        sinksFarthest();
        hears();
        hearsFarthest();
        shine();
        shineOfSeveral();
        shineFewest();
        edge();
        place();
        becomes();
        likeRefuses();
        like();
        fee();
        fine();
        Due.finish();
    }

    private static void behind() {
        DustySayings x = sentence(16, "BAD: n below 0 or above 100");
        withSaying(x, REMARK, 50, 0, 0);
        outside(0, 100, BAD, v -> x.behind(v, 0));
        is(x.behind(0, 0), 0);
        // gone over in the evenings 6, 12 .. 96
        is(x.behind(100, 0), 16);
        sentence(16, "BAD: what is below 0 or above 8");
        outside(0, 8, BAD, v -> x.behind(1, v));
        x.heed(0, 7);
        x.heed(5, 8);
        is(x.behind(1, 3), 7);
        is(x.behind(1, 8), 8);
        DustySayings y = sentence(16, "behind 0 EVENINGS all is as it is now");
        withSaying(y, SAYING, 0, 99, 0);
        withSaying(y, SAYING, 0, 98, 1);
        y.set(1, DUST, 98);
        is(y.behind(0, 0), 0);
        is(y.behind(0, 1), 0);
        is(y.behind(0, 2), 1);
        is(y.behind(0, 4), 50);
        is(y.behind(1, 0), 1);
        is(y.behind(1, 2), 1);
        DustySayings z = sentence(16, "z as it is: the kicks of thought are those of the EVENINGS");
        withSaying(z, REMARK, 50, 99, 5);
        z.seed(61);
        z.kicks(1);
        is(z.behind(1, 1), 1);
        is(z.behind(1, 2), 0);
        is(z.behind(1, 1), 1);
        is(z.count(8), 61);
        z.seed(18);
        is(z.behind(1, 1), 0);
        is(z.behind(1, 2), 1);
        DustySayings none = sentence(16, "without SAYINGS nothing comes of any EVENINGS");
        for (int what = 0; what <= 8; what++) {
            is(none.behind(100, what), what < 3 ? 0 : 50);
        }
    }

    /** In the evening 9999 the corner 3 would be gone over, in 10000 the corner 4. */
    private static void beyondTheLastEvening() {
        DustySayings x = sentence(16, "thought goes without the bound of THE EVENING");
        passUntil(x, 9999);
        withSaying(x, SALLY, 50, 95, 3);
        is(x.behind(1, 0), 1);
        x.turns(0, REMARK);
        is(x.behind(100, 0), 17);
        x.turns(0, SALLY);
        x.moves(0, 4);
        is(x.behind(1, 0), 0);
        is(x.behind(2, 0), 1);
        is(x.count(1), 9999);
        x.moves(0, 0);
        sentence(17, "thought goes without the bound of THE EVENING");
        is(x.sinks(0), 1);
        x.turns(0, REMARK);
        x.set(0, DUST, 97);
        is(x.sinks(0), 2);
        x.turns(0, SALLY);
        sentence(19, "thought goes without the bound of THE EVENING");
        is(x.shine(1), 1);
        sentence(20, "thought goes without the bound of THE EVENING");
        is(x.edge(0, 1, 97), 81);
        sentence(21, "thought goes without the bound of THE EVENING");
        is(x.place(0, 1, 0), 3);
        is(x.place(0, 1, 1), 4);
        sentence(18, "thought goes without the bound of THE EVENING");
        x.set(0, WIT, 99);
        x.set(0, DUST, 0);
        is(x.hears(0, 70), 1);
        sentence(22, "thought goes without the bound of THE EVENING");
        is(x.becomes(0, 1, 1), 320);
        sentence(23, "thought goes without the bound of THE EVENING");
        x.turns(0, REMARK);
        x.sheet(0, 0, 4);
        row(x, 0, 0, 1, 2, 3);
        is(x.like(0, 1), 0);
    }

    private static void sinks() {
        DustySayings x = sentence(17, "BAD: there is no such SAYING");
        is(x.sinks(0), BAD);
        withSaying(x, REMARK, 50, 99, 5);
        outside(0, 0, BAD, v -> x.sinks(v));
        is(x.sinks(10), BAD);
        sentence(17, "behind 0 EVENINGS, if it is BURIED now");
        is(x.sinks(0), 0);
        sentence(17, "it is BURIED with DUST 99, not 98");
        x.set(0, DUST, 98);
        is(x.sinks(0), 1);
        DustySayings y = sentence(17, "it is BURIED first, though it will be found and sink again");
        withSaying(y, SAYING, 50, 0, 0);
        write(y, "bloom 50");
        // gone over in each sixth evening, it sinks again behind each second one from then on
        is(y.sinks(0), 2);
        DustySayings never = sentence(17, "NONE: not by then");
        never.saying(REMARK, 50, 0);
        is(never.sinks(0), NONE);
        never.heed(0, 99);
        never.turns(0, SAYING);
        is(never.sinks(0), NONE);
    }

    /**
     * A clock: a sermon in corner 0 draws 1 in three of six evenings, so that heed is 3j - 2, 3j - 1, 3j behind
     * 6j + 1, 6j + 2, 6j + 3 evenings; another saying keeps heed at 0 through the first six, and is buried then.
     */
    private static DustySayings clock(DustySayings x, int wit) {
        x.heed(0, 0);
        withSaying(x, SERMON, 30, 0, 0);
        withSaying(x, SAYING, wit, 94, 0);
        return x;
    }

    private static DustySayings slowSinking(DustySayings x, int heed) {
        clock(x, 5);
        x.saying(SAYING, 0, 0);
        write(x, "bloom (w>0)+(w=0&h>" + heed + ")*99");
        return x;
    }

    private static void sinksFarthest() {
        DustySayings x = slowSinking(sentence(17, "behind 200 EVENINGS is told"), 96);
        is(x.sinks(2), 200);
        x.evenings(100);
        x.evenings(99);
        is(x.told(2, DUST), 0);
        is(x.sinks(2), 1);
        DustySayings y = slowSinking(sentence(17, "NONE: behind 201 EVENINGS is not by then"), 97);
        is(y.sinks(2), NONE);
        y.evenings(1);
        is(y.sinks(2), 200);
        y.evenings(100);
        y.evenings(100);
        is(y.told(2, DUST), 99);
    }

    private static void hears() {
        DustySayings x = sentence(18, "BAD: a CORNER below 0 or above 5");
        outside(0, 5, BAD, v -> x.hears(v, 0));
        is(x.hears(0, 0), 0);
        is(x.hears(5, 0), 0);
        sentence(18, "BAD: v below 0 or above 99");
        outside(0, 99, BAD, v -> x.hears(0, v));
        is(x.hears(0, 99), NONE);
        sentence(18, "HEED is v or more: behind 0 EVENINGS with v, NONE with one more, if nothing comes");
        is(x.hears(0, 49), 0);
        is(x.hears(0, 50), 0);
        is(x.hears(0, 51), NONE);
        x.heed(0, 99);
        is(x.hears(0, 99), 0);
        DustySayings y = sentence(18, "v or more, of a HEED that goes past v");
        y.saying(SALLY, 99, 5);
        is(y.hears(5, 51), 1);
        is(y.hears(5, 70), 1);
        is(y.hears(5, 71), 2);
        is(y.hears(5, 90), 2);
        is(y.hears(5, 91), 3);
        is(y.hears(5, 99), 3);
        DustySayings z = sentence(18, "v or more first, though HEED falls then");
        withSaying(z, SAYING, 0, 90, 5);
        write(z, "bloom 0");
        is(z.hears(5, 50), 0);
        is(z.hears(5, 42), 0);
        is(z.hears(5, 51), NONE);
    }

    private static void hearsFarthest() {
        DustySayings x = clock(sentence(18, "behind 200 EVENINGS is told"), 0);
        write(x, "bloom 1");
        is(x.hears(0, 97), 199);
        is(x.hears(0, 98), 200);
        sentence(18, "NONE: behind 201 EVENINGS is not by then");
        is(x.hears(0, 99), NONE);
        x.evenings(1);
        is(x.hears(0, 99), 200);
        x.evenings(100);
        x.evenings(99);
        is(x.cornerOf(0, 0), 98);
        x.evenings(1);
        is(x.cornerOf(0, 0), 99);
    }

    private static void shine() {
        DustySayings x = sentence(19, "BAD: n below 0 or above 20");
        outside(0, 20, BAD, v -> x.shine(v));
        sentence(19, "without SAYINGS the set is empty");
        is(x.shine(0), 0);
        is(x.shine(20), 0);
        DustySayings y = sentence(19, "for 0 EVENINGS nobody must shine");
        withSaying(y, REMARK, 0, 99, 5);
        withSaying(y, REMARK, 0, 98, 5);
        is(y.shine(0), 0);
        sentence(19, "NONE: by none");
        is(y.shine(1), NONE);
        sentence(19, "no more are BURIED than now: as many may be, others too");
        y.moves(0, 0);
        is(y.shine(1), 0);
        DustySayings z = sentence(19, "WIT of these is 99 from now on, all ten of them if need be");
        for (int i = 0; i < 10; i++) {
            withSaying(z, SALLY, 80, 98, 5);
        }
        write(z, "bloom 99");
        is(z.shine(1), 1023);
        is(z.told(0, WIT), 80);
        z.set(0, WIT, 81);
        z.set(9, WIT, 99);
        is(z.shine(1), 510);
        DustySayings full = sentence(19, "WIT of these is 99, not less");
        withSaying(full, SAYING, 50, 0, 5);
        write(full, "bloom (w<99)*99");
        is(full.shine(1), 1);
        write(full, "bloom (w<100)*99");
        is(full.shine(1), NONE);
        DustySayings far = sentence(19, "for 20 EVENINGS");
        withSaying(far, SALLY, 50, 79, 0);
        far.saying(SERMON, 50, 0);
        write(far, "bloom 1+(w<9)");
        is(far.shine(19), 0);
        is(far.shine(20), 1);
    }

    private static void shineOfSeveral() {
        DustySayings x = sentence(19, "of several the least");
        withSaying(x, REMARK, 0, 99, 0);
        for (int i = 0; i < 3; i++) {
            withSaying(x, SALLY, 50, 98, 5);
        }
        write(x, "bloom 99");
        // the remark is gone over, so that one of three may sink: two of three must shine
        is(x.shine(1), 2 + 4);
        x.set(1, WIT, 99);
        is(x.shine(1), 4);
    }

    /** Heed 42 must stand behind the first evening: by 2 alone, or by 0 and 1 together. */
    private static void shineFewest() {
        DustySayings x = sentence(19, "the fewest go ahead of the least");
        int[][] all = {{SAYING, 80, 0}, {SAYING, 80, 0}, {SAYING, 70, 0}, {SAYING, 0, 0},
            {SERMON, 0, 90}, {SERMON, 0, 90}, {SERMON, 0, 90}};
        for (int[] one : all) {
            withSaying(x, one[0], one[1], one[2], 5);
        }
        write(x, "bloom (w<50&h<42)*99");
        is(x.shine(1), 0);
        is(x.shine(2), 4);
        x.set(0, WIT, 99);
        is(x.shine(2), 2);
    }

    private static void edge() {
        DustySayings x = sentence(20, "BAD: there is no such SAYING");
        is(x.edge(0, 1, 1), BAD);
        withSaying(x, SALLY, 50, 10, 5);
        outside(0, 0, BAD, v -> x.edge(v, 1, 1));
        is(x.edge(10, 1, 1), BAD);
        sentence(20, "BAD: n below 0 or above 30");
        outside(0, 30, BAD, v -> x.edge(0, v, 99));
        is(x.edge(0, 30, 99), 0);
        sentence(20, "BAD: v below 0 or above 99");
        outside(0, 99, BAD, v -> x.edge(0, 0, v));
        sentence(20, "behind 0 EVENINGS it is DUST now: v or less");
        is(x.edge(0, 0, 11), 0);
        is(x.edge(0, 0, 10), 0);
        sentence(20, "NONE: with none");
        is(x.edge(0, 0, 9), NONE);
        is(x.edge(0, 0, 0), NONE);
        sentence(20, "the least WIT, whatever it has now");
        is(x.edge(0, 1, 10), 81);
        is(x.edge(0, 1, 13), 81);
        is(x.edge(0, 1, 14), 0);
        x.set(0, WIT, 99);
        is(x.edge(0, 1, 10), 81);
        is(x.told(0, WIT), 99);
        DustySayings y = sentence(20, "the least WIT: 0 and 99 are looked at");
        y.saying(SAYING, 50, 5);
        write(y, "bloom w<99");
        is(y.edge(0, 1, 0), 99);
        write(y, "bloom w<100");
        is(y.edge(0, 1, 0), NONE);
        write(y, "bloom w>0");
        is(y.edge(0, 1, 0), 0);
        sentence(20, "the least WIT, though a greater one may not do");
        write(y, "bloom (w<20)+(w>20)");
        is(y.edge(0, 1, 0), 20);
    }

    private static void place() {
        DustySayings x = sentence(21, "BAD: there is no such SAYING");
        is(x.place(0, 1, 0), BAD);
        withSaying(x, REMARK, 50, 0, 4);
        outside(0, 0, BAD, v -> x.place(v, 1, 0));
        is(x.place(10, 1, 0), BAD);
        sentence(21, "BAD: n below 1 or above 60");
        outside(1, 60, BAD, v -> x.place(0, v, 0));
        // gone over in the evening 59, in the corner 5
        is(x.place(0, 60, 0), 5);
        is(x.place(0, 60, 1), 1);
        sentence(21, "BAD: what is neither 0 nor 1");
        outside(0, 1, BAD, v -> x.place(0, 1, v));
        sentence(21, "of several the least");
        is(x.place(0, 1, 0), 0);
        is(x.place(0, 1, 1), 1);
        is(x.told(0, CORNER), 4);
        x.saying(SERMON, 50, 0);
        x.set(0, DUST, 9);
        is(x.place(0, 1, 0), 0);
        is(x.place(0, 1, 1), 10);
        is(x.place(0, 3, 0), 2);
        is(x.place(0, 3, 1), 1);
        DustySayings y = sentence(21, "the CORNER 5 alone is best");
        y.saying(SAYING, 50, 0);
        y.heed(5, 99);
        is(y.place(0, 1, 0), 5);
        is(y.place(0, 1, 1), 0);
        DustySayings z = sentence(21, "DUST is least, though it is 99 everywhere");
        withSaying(z, REMARK, 50, 99, 5);
        withSaying(z, SERMON, 50, 99, 0);
        is(z.place(0, 1, 0), 0);
        is(z.place(0, 1, 1), 99);
    }

    private static void becomes() {
        DustySayings x = sentence(22, "BAD: there is no such SAYING");
        is(x.becomes(0, 1, 0), BAD);
        withSaying(x, SAYING, 0, 90, 5);
        outside(0, 0, BAD, v -> x.becomes(v, 1, 0));
        is(x.becomes(10, 1, 0), BAD);
        sentence(22, "BAD: n below 1 or above 60");
        outside(1, 60, BAD, v -> x.becomes(0, v, 0));
        sentence(22, "BAD: what is neither 0 nor 1");
        outside(0, 1, BAD, v -> x.becomes(0, 1, v));
        sentence(22, "the KIND 5 alone is best");
        write(x, "bloom 0");
        is(x.becomes(0, 1, 0), 5);
        is(x.becomes(0, 1, 1), 300);
        is(x.told(0, 0), SAYING);
        sentence(22, "of several the least: HEED 0 goes no lower");
        x.heed(5, 0);
        is(x.becomes(0, 1, 0), 0);
        is(x.becomes(0, 1, 1), 250);
        DustySayings y = sentence(22, "of several the least: HEED 99 goes no higher, for 60 EVENINGS too");
        y.saying(REMARK, 99, 5);
        write(y, "bloom 0");
        for (int corner = 0; corner <= 5; corner++) {
            y.heed(corner, 99);
        }
        is(y.becomes(0, 1, 0), 0);
        is(y.becomes(0, 60, 0), 0);
        is(y.becomes(0, 60, 1), 594);
        for (int corner = 0; corner <= 5; corner++) {
            y.heed(corner, 0);
        }
        sentence(22, "HEED of all CORNERS, together");
        is(y.becomes(0, 1, 0), 3);
        is(y.becomes(0, 1, 1), 20);
        is(y.becomes(0, 60, 1), 99);
    }

    private static void likeRefuses() {
        DustySayings x = sentence(23, "BAD: a SHEET below 0 or above 3");
        outside(0, 3, BAD, v -> x.like(v, 0));
        sentence(23, "BAD: what is neither 0 nor 1");
        outside(0, 1, BAD, v -> x.like(0, v));
        sentence(23, "NOTHING stands ahead of NONE");
        is(x.like(0, 0), NOTHING);
        is(x.like(3, 1), NOTHING);
        sentence(23, "NOTHING: the SHEET is MISSING");
        x.saying(REMARK, 50, 5);
        is(x.like(0, 0), NOTHING);
        DustySayings y = sentence(23, "NONE: there are no SAYINGS");
        y.sheet(0, 0, 4);
        is(y.like(0, 0), NONE);
        is(y.like(0, 1), NONE);
        y.sheet(0, 0, 0);
        is(y.like(0, 0), NONE);
    }

    private static void like() {
        DustySayings x = sentence(23, "without places, and without numbers, the least SAYING and no differences");
        withSaying(x, REMARK, 50, 30, 5);
        withSaying(x, REMARK, 50, 20, 5);
        x.sheet(0, 0, 0);
        is(x.like(0, 0), 0);
        is(x.like(0, 1), 0);
        x.sheet(0, 1, 2);
        row(x, 0, NONE, NONE);
        is(x.like(0, 0), 0);
        is(x.like(0, 1), 0);
        sentence(23, "of several the least");
        x.sheet(0, 0, 1);
        row(x, 0, 25);
        is(x.like(0, 0), 0);
        is(x.like(0, 1), 5);
        row(x, 0, 24);
        is(x.like(0, 0), 1);
        is(x.like(0, 1), 4);
        sentence(23, "signs are left out, of each difference by itself");
        x.sheet(0, 0, 2);
        row(x, 0, 40, 11);
        // 10 + 20 against 20 + 10: the least
        is(x.like(0, 0), 0);
        is(x.like(0, 1), 30);
        sentence(23, "a place that is no number is left out, its EVENING passes");
        x.sheet(0, 1, 3);
        row(x, 0, 20, NONE, 22);
        is(x.like(0, 0), 1);
        is(x.like(0, 1), 0);
        sentence(23, "places farthest out: shorts and floats");
        x.sheet(0, 0, 1);
        row(x, 0, -32768);
        is(x.like(0, 0), 1);
        is(x.like(0, 1), 32788);
        x.sheet(0, 1, 1);
        row(x, 0, 99999);
        is(x.like(0, 0), 0);
        is(x.like(0, 1), 99969);
        DustySayings y = sentence(23, "k from 0 on, up to the 24th place");
        withSaying(y, REMARK, 50, 30, 5);
        y.saying(SERMON, 50, 5);
        y.sheet(0, 1, 24);
        for (int k = 0; k < 24; k++) {
            y.mark(0, k, 30 + k);
        }
        is(y.like(0, 0), 0);
        is(y.like(0, 1), 0);
        y.mark(0, 23, 99999);
        is(y.like(0, 1), 99999 - 53);
        DustySayings z = sentence(23, "the tenth of ten SAYINGS");
        for (int i = 0; i < 10; i++) {
            withSaying(z, REMARK, 50, 10 * i, 5);
        }
        z.sheet(0, 0, 2);
        row(z, 0, 90, 91);
        is(z.like(0, 0), 9);
        is(z.like(0, 1), 0);
    }

    private static void fee() {
        DustySayings x = sentence(24, "without a TEXT: DUSTED");
        is(x.fee(), 0);
        withSaying(x, SAYING, 50, 9, 0);
        x.dusts(0);
        is(x.fee(), 1);
        write(x, "fine 5");
        write(x, "bloom 5");
        is(x.fee(), 1);
        sentence(24, "a TEXT that was refused gives nothing");
        write(x, "fee 5 5");
        is(x.fee(), 1);
        sentence(24, "what fee gives is not held");
        write(x, "fee d-9999");
        is(x.fee(), -9998);
    }

    private static void fine() {
        DustySayings x = sentence(25, "BAD: there is no such SAYING");
        is(x.fine(0), BAD);
        withSaying(x, SAYING, 50, 99, 0);
        outside(0, 0, BAD, v -> x.fine(v));
        is(x.fine(10), BAD);
        sentence(25, "without a TEXT: DUST");
        is(x.fine(0), 99);
        write(x, "fee 5");
        write(x, "bloom 5");
        is(x.fine(0), 99);
        sentence(25, "BAD with a TEXT too");
        write(x, "fine 7");
        is(x.fine(0), 7);
        is(x.fine(1), BAD);
        sentence(25, "what fine gives is not held");
        write(x, "fine w-9999");
        is(x.fine(0), -9949);
    }
}
