/** The boundary sentences of the promises 14 and 15, with those of the terms' part 2. */
public final class EveningsEdgesTest extends Edges {
    public static void main(String[] args) {
        evenings();
        lastEvening();
        goneOver();
        goneOverClergy();
        dust();
        heed();
        heedAndBuried();
        kicksByChance();
        kickOut();
        room();
        Due.finish();
    }

    private static int next(int z) {
        return z * 1103515245 + 12345;
    }

    private static void evenings() {
        DustySayings x = sentence(14, "BAD: n below 1 or above 100");
        outside(1, 100, BAD, v -> x.evenings(v));
        is(x.count(1), 0);
        is(x.count(8), 1);
        is(x.evenings(1), 0);
        is(x.count(1), 1);
        is(x.evenings(100), 0);
        is(x.count(1), 101);
        DustySayings y = sentence(14, "by how much DUSTED is more, not how much it is");
        withSaying(y, REMARK, 50, 5, 0);
        y.dusts(0);
        y.set(0, DUST, 5);
        is(y.evenings(1), 1);
        is(y.room(0), 2);
        is(y.evenings(5), 0);
        is(y.evenings(7), 2);
        is(y.room(0), 4);
        DustySayings none = sentence(14, "without SAYINGS: HEED stays, one draw an EVENING");
        is(none.evenings(2), 0);
        for (int corner = 0; corner <= 5; corner++) {
            is(none.cornerOf(corner, 0), 50);
        }
        is(none.count(8), next(next(1)));
        is(none.count(1), 2);
    }

    private static void lastEvening() {
        DustySayings x = sentence(14, "no more than up to 9999");
        passUntil(x, 9950);
        withSaying(x, REMARK, 50, 0, 0);
        x.seed(7);
        is(x.evenings(100), 8);
        is(x.count(1), 9999);
        int z = 7;
        for (int i = 0; i < 49; i++) {
            z = next(z);
        }
        is(x.count(8), z);
        // it was gone over in the evening 9996, and has gathered in that and two more
        is(x.told(0, DUST), 3);
        sentence(14, "at 9999 there is no EVENING more, no draw, no dust");
        is(x.evenings(1), 0);
        is(x.evenings(100), 0);
        is(x.count(1), 9999);
        is(x.count(8), z);
        is(x.told(0, DUST), 3);
        is(x.evenings(0), BAD);
        DustySayings y = sentence(14, "the one up to 9999 is still held");
        passUntil(y, 9998);
        y.saying(REMARK, 50, 0);
        y.evenings(1);
        is(y.count(1), 9999);
        is(y.told(0, DUST), 1);
    }

    private static void goneOver() {
        DustySayings x = sentence(14, "the CORNER that is the rest of THE EVENING by 6");
        for (int i = 0; i <= 5; i++) {
            withSaying(x, REMARK, 50, 50, i);
        }
        for (int evening = 0; evening < 13; evening++) {
            is(x.evenings(1), 1);
            for (int i = 0; i <= 5; i++) {
                is(x.told(i, TURNED), (evening + 6 - i) / 6);
            }
        }
        DustySayings none = sentence(14, "nobody is GONE OVER where nobody is");
        withSaying(none, REMARK, 50, 50, 1);
        is(none.evenings(1), 0);
        is(none.told(0, TURNED), 0);
        is(none.told(0, DUST), 51);
        DustySayings most = sentence(14, "the one with most DUST");
        withSaying(most, REMARK, 50, 10, 0);
        withSaying(most, REMARK, 50, 12, 0);
        withSaying(most, REMARK, 50, 11, 0);
        withSaying(most, REMARK, 50, 90, 1);
        is(most.evenings(1), 1);
        is(most.told(1, TURNED), 1);
        is(most.told(1, DUST), 1);
        DustySayings least = sentence(14, "of several with most DUST the least");
        withSaying(least, REMARK, 50, 10, 0);
        withSaying(least, REMARK, 50, 12, 0);
        withSaying(least, REMARK, 50, 12, 0);
        withSaying(least, REMARK, 50, 12, 0);
        is(least.evenings(1), 1);
        is(least.told(1, TURNED), 1);
        is(least.told(2, TURNED) + least.told(3, TURNED), 0);
        DustySayings clean = sentence(14, "with DUST 0 nothing is more");
        clean.saying(REMARK, 50, 0);
        is(clean.evenings(1), 0);
        is(clean.told(0, TURNED), 0);
        DustySayings buried = sentence(14, "a BURIED one is GONE OVER too");
        withSaying(buried, REMARK, 50, 99, 0);
        is(buried.evenings(1), 1);
        is(buried.told(0, DUST), 1);
        is(buried.room(1), 0);
    }

    private static void goneOverClergy() {
        DustySayings x = sentence(14, "of SERMONS and DRONES first, though others have more DUST");
        withSaying(x, SAYING, 50, 90, 0);
        withSaying(x, SERMON, 50, 10, 0);
        withSaying(x, DRONE, 50, 11, 0);
        withSaying(x, SALLY, 50, 80, 0);
        is(x.evenings(1), 1);
        is(x.told(2, TURNED), 1);
        is(x.told(0, TURNED) + x.told(1, TURNED) + x.told(3, TURNED), 0);
        DustySayings tie = sentence(14, "of several SERMONS and DRONES with most DUST the least");
        withSaying(tie, SAYING, 50, 10, 0);
        withSaying(tie, DRONE, 50, 10, 0);
        withSaying(tie, SERMON, 50, 10, 0);
        is(tie.evenings(1), 1);
        is(tie.told(1, TURNED), 1);
        DustySayings clean = sentence(14, "a SERMON without DUST is begun with, and nothing is more");
        withSaying(clean, SAYING, 50, 90, 0);
        clean.saying(SERMON, 50, 0);
        is(clean.evenings(1), 0);
        is(clean.told(0, TURNED) + clean.told(1, TURNED), 0);
        DustySayings far = sentence(14, "of all SAYINGS in it, if there are none of these in it");
        withSaying(far, REMARK, 50, 9, 0);
        withSaying(far, SERMON, 50, 50, 1);
        withSaying(far, DRONE, 50, 50, 5);
        is(far.evenings(1), 1);
        is(far.told(0, TURNED), 1);
    }

    private static void dustBehind(int kind, int dust, String bloom, int want) {
        DustySayings x = new DustySayings();
        withSaying(x, kind, 50, dust, 5);
        if (!bloom.isEmpty()) {
            write(x, "bloom " + bloom);
        }
        x.evenings(1);
        is(x.told(0, DUST), want);
    }

    private static void dust() {
        sentence(14, "DUST is more by what it GATHERS, 99 at most");
        dustBehind(REMARK, 97, "", 98);
        dustBehind(REMARK, 98, "", 99);
        dustBehind(REMARK, 99, "", 99);
        dustBehind(SAYING, 94, "", 98);
        dustBehind(SAYING, 95, "", 99);
        dustBehind(SAYING, 96, "", 99);
        dustBehind(SAYING, 0, "99", 99);
        dustBehind(SAYING, 1, "99", 99);
        dustBehind(DRONE, 99, "99", 99);
        dustBehind(SAYING, 40, "0-9", 40);
        dustBehind(SAYING, 99, "0-9", 99);
        DustySayings x = sentence(14, "of each as it is when its turn comes: one GONE OVER gathers by DUST 0");
        withSaying(x, SAYING, 50, 10, 0);
        withSaying(x, SAYING, 50, 8, 0);
        write(x, "bloom d+1");
        x.evenings(1);
        is(x.told(0, DUST), 1);
        is(x.told(1, DUST), 17);
        DustySayings y = sentence(14, "what it GATHERS is by HEED ahead of what SAYINGS DRAW");
        y.saying(SALLY, 80, 5);
        y.saying(SAYING, 99, 5);
        y.evenings(1);
        // heed goes from 50 to 50 + 18 + 9
        is(y.told(1, DUST), 4);
        is(y.cornerOf(5, 0), 77);
        y.evenings(1);
        is(y.told(1, DUST), 6);
    }

    private static void heedBehind(int heed, int kind, int wit, int dust, int want) {
        DustySayings x = new DustySayings();
        write(x, "bloom 0");
        x.heed(5, heed);
        withSaying(x, kind, wit, dust, 5);
        x.evenings(1);
        is(x.cornerOf(5, 0), want);
    }

    private static void heed() {
        sentence(14, "HEED is held to 99");
        heedBehind(89, SAYING, 99, 0, 98);
        heedBehind(90, SAYING, 99, 0, 99);
        heedBehind(91, SAYING, 99, 0, 99);
        heedBehind(99, SALLY, 99, 0, 99);
        sentence(14, "HEED is held to 0");
        heedBehind(10, SAYING, 0, 90, 1);
        heedBehind(9, SAYING, 0, 90, 0);
        heedBehind(8, SAYING, 0, 90, 0);
        heedBehind(0, SERMON, 0, 90, 0);
        DustySayings x = sentence(14, "HEED is more by what they DRAW together, and is held then");
        write(x, "bloom 0");
        x.heed(5, 95);
        x.heed(4, 5);
        withSaying(x, SAYING, 90, 0, 5);
        withSaying(x, SAYING, 0, 90, 5);
        withSaying(x, SAYING, 0, 90, 4);
        withSaying(x, SAYING, 90, 0, 4);
        x.evenings(1);
        is(x.cornerOf(5, 0), 95);
        is(x.cornerOf(4, 0), 5);
        sentence(14, "HEED of a CORNER without SAYINGS stays");
        for (int corner = 0; corner <= 3; corner++) {
            is(x.cornerOf(corner, 0), 50);
        }
    }

    private static void heedAndBuried() {
        sentence(14, "SAYINGS that are BURIED do not DRAW; with DUST 98 they do");
        heedBehind(50, SAYING, 0, 98, 41);
        heedBehind(50, SAYING, 0, 99, 50);
        heedBehind(50, SAYING, 99, 99, 50);
        DustySayings x = sentence(14, "one that is BURIED this very EVENING does not DRAW");
        withSaying(x, SAYING, 0, 95, 5);
        withSaying(x, SAYING, 0, 94, 4);
        x.evenings(1);
        is(x.cornerOf(5, 0), 50);
        is(x.cornerOf(4, 0), 41);
        DustySayings y = sentence(14, "a BURIED one that is GONE OVER this very EVENING DRAWS");
        write(y, "bloom 0");
        withSaying(y, SAYING, 99, 99, 0);
        y.evenings(1);
        is(y.cornerOf(0, 0), 59);
    }

    private static void kickedByRest(int seed, int kicks, boolean isKicked, int corner) {
        DustySayings x = new DustySayings();
        withSaying(x, REMARK, 50, 99, 5);
        x.seed(seed);
        x.kicks(kicks);
        x.evenings(1);
        is(x.room(1), isKicked ? 1 : 0);
        is(x.told(0, DUST), isKicked ? 0 : 99);
        is(x.told(0, CORNER), isKicked ? corner : 5);
        is(x.count(8), isKicked ? next(next(next(seed))) : next(seed));
    }

    /** The first draw's rest by 100 is 0 from z 61, 50 from z 258, 99 from z 18. */
    private static void kicksByChance() {
        sentence(14, "if its rest by 100 is below KICKS: 0 of 0 is not, 0 of 1 is");
        kickedByRest(61, 0, false, 1);
        kickedByRest(61, 1, true, 1);
        sentence(14, "if its rest by 100 is below KICKS: 50 of 50 is not, 50 of 51 is");
        kickedByRest(258, 50, false, 2);
        kickedByRest(258, 51, true, 2);
        sentence(14, "if its rest by 100 is below KICKS: 99 of 99 is not, 99 of 100 is");
        kickedByRest(18, 99, false, 4);
        kickedByRest(18, 100, true, 4);
        DustySayings none = sentence(14, "if there are no SAYINGS: no draws more");
        none.seed(61);
        none.kicks(100);
        none.evenings(1);
        is(none.count(8), next(61));
        is(none.room(1), 0);
        DustySayings light = sentence(14, "one that is not BURIED: two draws more, and all stays");
        withSaying(light, REMARK, 50, 97, 5);
        light.seed(18);
        light.kicks(100);
        light.evenings(1);
        is(light.count(8), next(next(next(18))));
        is(light.told(0, DUST), 98);
        is(light.told(0, CORNER), 5);
        is(light.room(1), 0);
    }

    private static void kickOut() {
        int[][] kicked = {{882, 0, 1}, {364, 1, 3}, {18, 2, 4}};
        for (int[] k : kicked) {
            DustySayings x = sentence(14, "the rest of the first by how many there are, of the second by 6: z " + k[0]);
            for (int i = 0; i < 3; i++) {
                withSaying(x, REMARK, 50, 99, 5);
            }
            x.seed(k[0]);
            x.kicks(100);
            is(x.evenings(1), 0);
            for (int i = 0; i < 3; i++) {
                is(x.told(i, DUST), i == k[1] ? 0 : 99);
                is(x.told(i, CORNER), i == k[1] ? k[2] : 5);
            }
            is(x.room(1), 1);
        }
        DustySayings x = sentence(14, "one that is FOUND is not TURNED nor DUSTED");
        withSaying(x, REMARK, 50, 99, 5);
        x.seed(18);
        x.kicks(100);
        is(x.evenings(1), 0);
        is(x.told(0, TURNED), 0);
        is(x.room(0), 0);
        DustySayings late = sentence(14, "one that is FOUND DRAWS from the next EVENING on");
        write(late, "bloom 0");
        withSaying(late, SAYING, 99, 99, 5);
        late.seed(18);
        late.kicks(100);
        late.evenings(1);
        is(late.told(0, CORNER), 4);
        is(late.cornerOf(4, 0), 50);
        is(late.cornerOf(5, 0), 50);
        late.kicks(0);
        late.evenings(1);
        is(late.cornerOf(4, 0), 59);
        is(late.cornerOf(5, 0), 50);
        DustySayings now = sentence(14, "one that is BURIED this very EVENING may be kicked out");
        withSaying(now, REMARK, 50, 98, 5);
        now.seed(18);
        now.kicks(100);
        now.evenings(1);
        is(now.room(1), 1);
        is(now.told(0, DUST), 0);
    }

    private static void room() {
        DustySayings x = sentence(15, "BAD: what is below 0 or above 5");
        outside(0, 5, BAD, v -> x.room(v));
        sentence(15, "without SAYINGS: no DUST, no sets");
        is(x.room(2), 0);
        is(x.room(3), 0);
        is(x.room(4), 0);
        sentence(15, "DEAFEST: of several the least");
        is(x.room(5), 0);
        x.heed(5, 49);
        is(x.room(5), 5);
        x.heed(3, 49);
        is(x.room(5), 3);
        x.heed(1, 48);
        is(x.room(5), 1);
        x.heed(0, 0);
        x.heed(1, 0);
        is(x.room(5), 0);
        DustySayings y = sentence(15, "BURIED, if its DUST is 99: 98 is not");
        for (int i = 0; i < 10; i++) {
            withSaying(y, SAYING, 0, i == 0 || i == 9 ? 99 : 98, i == 4 ? 0 : 5);
        }
        is(y.room(3), 513);
        sentence(15, "CORNERS in which SAYINGS are, as a set");
        is(y.room(4), 33);
        y.moves(0, 1);
        is(y.room(4), 35);
        y.moves(9, 2);
        is(y.room(4), 39);
        sentence(15, "DUST of all, together, above 99");
        is(y.room(2), 2 * 99 + 8 * 98);
    }
}
