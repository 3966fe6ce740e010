import java.util.ArrayList;
import java.util.List;
import java.util.function.Supplier;
import java.util.function.ToIntFunction;

/** A call that is refused, and one that only asks, changes nothing: all that can be seen is as without it. */
public final class RefusedTest extends Edges {
    public static void main(String[] args) {
        sayingsRefused();
        evenedRefused();
        textsRefused();
        sheetsRefused();
        slotsRefused();
        withoutAnything();
        full();
        tapeUsedUp();
        numbersUsedUp();
        asking();
        Due.finish();
    }

    /** Four sayings, texts of each key, an image two evenings ago, sheets, things in slots, a text on the tape. */
    private static DustySayings rich(boolean waits) {
        DustySayings x = new DustySayings();
        withSaying(x, SALLY, 41, 9, 2);
        withSaying(x, DRONE, 30, 40, 1);
        withSaying(x, REMARK, 20, 99, 0);
        withSaying(x, QUIP, 77, 3, 2);
        x.heed(0, 60);
        x.heed(2, 30);
        x.kicks(30);
        x.seed(99);
        x.evenings(3);
        write(x, "bloom h/9+n");
        write(x, "fee d*7+f");
        write(x, "fine w-d");
        x.keep();
        for (int i = 0; i < 2; i++) {
            x.evenings(1);
            if (waits) {
                x.tell(x.room(0));
                x.tell(x.room(2));
            }
        }
        x.moves(1, 4);
        x.sheet(0, 0, 3);
        row(x, 0, 1, 2, -3);
        x.sheet(1, 1, 4);
        row(x, 1, 5, NONE, -7, 0);
        x.sheet(2, 0, 0);
        x.lay(0, 1, 0);
        x.lay(1, 2, 1);
        x.lay(2, 3, -17);
        x.lay(4, 2, 0);
        onTape(x, "fine w+d+1");
        return x;
    }

    private static DustySayings fullOfSayings() {
        DustySayings x = new DustySayings();
        x.deal(10);
        x.keep();
        return x;
    }

    private static DustySayings fullOfTexts() {
        DustySayings x = new DustySayings();
        x.deal(2);
        for (int i = 0; i < 14; i++) {
            write(x, "fine " + i);
        }
        onTape(x, "fine 99");
        return x;
    }

    private static DustySayings fullTape() {
        DustySayings x = new DustySayings();
        x.deal(2);
        onTape(x, "fine 12" + " ".repeat(89));
        return x;
    }

    private static DustySayings fullOfNumbers() {
        DustySayings x = new DustySayings();
        x.keep();
        for (int i = 0; i < 60; i++) {
            x.tell(i < 4 ? 0 : 7);
        }
        return x;
    }

    private static DustySayings lastEvening() {
        DustySayings x = new DustySayings();
        passUntil(x, 9999);
        x.deal(5);
        x.kicks(50);
        x.keep();
        return x;
    }

    /** All that calls can tell of an object, which is used up by it. */
    private static List<Integer> seen(DustySayings x) {
        List<Integer> all = new ArrayList<>();
        state(x, all);
        for (int text = 0; text < 14; text++) {
            all.add(x.textTold(text, 0));
            all.add(x.textTold(text, 1));
        }
        for (int slot = 0; slot <= 4; slot++) {
            all.add(x.rest(slot, MIN));
            for (int i = 0; i <= 5; i++) {
                all.add(x.ask(slot, i));
                all.add(x.item(slot, i));
            }
        }
        for (int sheet = 0; sheet <= 3; sheet++) {
            all.add(x.copy(sheet, 0, 1, 0, 0));
            all.add(x.lay(0, 2, sheet));
            for (int i = 0; i <= 4; i++) {
                all.add(x.item(0, i));
            }
        }
        all.add(x.count(6));
        all.add(x.check(2));
        all.add(x.text());
        all.add(x.count(5));
        all.add(x.fine(0));
        all.add(x.back());
        state(x, all);
        return all;
    }

    private static void state(DustySayings x, List<Integer> all) {
        for (int what = 0; what <= 8; what++) {
            all.add(what == 6 || what == 7 ? 0 : x.count(what));
        }
        for (int i = 0; i < x.count(0); i++) {
            for (int what = 0; what <= 5; what++) {
                all.add(x.told(i, what));
            }
        }
        for (int corner = 0; corner <= 5; corner++) {
            all.add(x.cornerOf(corner, 0));
        }
        for (int key = 0; key <= 2; key++) {
            all.add(x.why(key));
        }
        all.add(x.fee());
        all.add(x.fine(0));
    }

    private static void isAs(DustySayings got, DustySayings want) {
        is(got.count(7), want.count(7));
        List<Integer> is = seen(got);
        List<Integer> due = seen(want);
        is(is.size(), due.size());
        isTrue(is.equals(due));
    }

    private static void stays(Supplier<DustySayings> made, int want, ToIntFunction<DustySayings> call) {
        DustySayings x = made.get();
        is(call.applyAsInt(x), want);
        isAs(x, made.get());
    }

    private static void refused(int want, ToIntFunction<DustySayings> call) {
        stays(() -> rich(true), want, call);
    }

    private static void sayingsRefused() {
        sentence(2, "refused: nothing changes");
        refused(BAD, x -> x.saying(6, 0, 0));
        refused(BAD, x -> x.saying(0, 100, 0));
        refused(BAD, x -> x.saying(0, 0, 6));
        sentence(3, "refused: nothing changes");
        refused(BAD, x -> x.told(4, 0));
        refused(BAD, x -> x.told(0, 8));
        sentence(4, "refused: nothing changes");
        refused(BAD, x -> x.as(4, 0));
        refused(BAD, x -> x.as(0, 6));
        refused(KIND, x -> x.as(0, SERMON));
        sentence(5, "refused: nothing changes");
        refused(BAD, x -> x.turns(4, 0));
        refused(BAD, x -> x.turns(0, 6));
        refused(BAD, x -> x.turns(0, -1));
        sentence(6, "refused: nothing changes");
        refused(BAD, x -> x.set(4, WIT, 1));
        refused(BAD, x -> x.set(0, 0, 1));
        refused(BAD, x -> x.set(0, 3, 1));
        refused(BAD, x -> x.set(0, WIT, 100));
        refused(BAD, x -> x.set(0, DUST, -1));
        sentence(7, "refused: nothing changes");
        refused(BAD, x -> x.moves(4, 0));
        refused(BAD, x -> x.moves(0, 6));
        sentence(8, "refused: nothing changes");
        refused(BAD, x -> x.dusts(4));
        refused(BAD, x -> x.dusts(-1));
        sentence(9, "refused: nothing changes");
        refused(BAD, x -> x.heed(6, 1));
        refused(BAD, x -> x.heed(0, 100));
        refused(BAD, x -> x.heed(0, -1));
        sentence(10, "refused: nothing changes");
        refused(BAD, x -> x.cornerOf(6, 0));
        refused(BAD, x -> x.cornerOf(0, 5));
        sentence(11, "refused: nothing changes");
        refused(BAD, x -> x.kicks(101));
        refused(BAD, x -> x.kicks(-1));
        sentence(12, "refused: nothing changes, z too");
        refused(BAD, x -> x.deal(0));
        refused(BAD, x -> x.deal(11));
    }

    private static void evenedRefused() {
        sentence(14, "refused: nothing changes, z too");
        refused(BAD, x -> x.evenings(0));
        refused(BAD, x -> x.evenings(101));
        sentence(15, "refused: nothing changes");
        refused(BAD, x -> x.room(6));
        sentence(16, "refused: nothing changes");
        refused(BAD, x -> x.behind(101, 0));
        refused(BAD, x -> x.behind(1, 9));
        sentence(17, "refused: nothing changes");
        refused(BAD, x -> x.sinks(4));
        sentence(18, "refused: nothing changes");
        refused(BAD, x -> x.hears(6, 0));
        refused(BAD, x -> x.hears(0, 100));
        sentence(19, "refused: nothing changes");
        refused(BAD, x -> x.shine(21));
        sentence(20, "refused: nothing changes");
        refused(BAD, x -> x.edge(4, 1, 1));
        refused(BAD, x -> x.edge(0, 31, 1));
        refused(BAD, x -> x.edge(0, 1, 100));
        sentence(21, "refused: nothing changes");
        refused(BAD, x -> x.place(4, 1, 0));
        refused(BAD, x -> x.place(0, 61, 0));
        refused(BAD, x -> x.place(0, 1, 2));
        sentence(22, "refused: nothing changes");
        refused(BAD, x -> x.becomes(4, 1, 0));
        refused(BAD, x -> x.becomes(0, 61, 0));
        refused(BAD, x -> x.becomes(0, 1, 2));
        sentence(23, "refused: nothing changes");
        refused(BAD, x -> x.like(4, 0));
        refused(BAD, x -> x.like(0, 2));
        refused(NOTHING, x -> x.like(3, 0));
        sentence(25, "refused: nothing changes");
        refused(BAD, x -> x.fine(4));
        sentence(44, "refused: nothing changes");
        refused(BAD, x -> x.count(9));
    }

    private static void textsRefused() {
        sentence(27, "refused: nothing changes, THE TAPE too");
        refused(BAD, x -> x.trim(-1));
        refused(BAD, x -> x.trim(11));
        sentence(29, "refused: nothing changes");
        refused(BAD, x -> x.textTold(3, 0));
        refused(BAD, x -> x.textTold(0, 2));
        sentence(30, "refused: nothing changes");
        refused(BAD, x -> x.why(3));
    }

    private static void sheetsRefused() {
        sentence(31, "refused: nothing changes");
        refused(BAD, x -> x.sheet(4, 0, 1));
        refused(BAD, x -> x.sheet(0, 2, 1));
        refused(BAD, x -> x.sheet(0, -2, 1));
        refused(BAD, x -> x.sheet(0, 0, 25));
        refused(SIZE, x -> x.sheet(0, 0, -1));
        sentence(32, "refused: nothing changes");
        refused(BAD, x -> x.mark(4, 0, 1));
        refused(NOTHING, x -> x.mark(3, 0, 1));
        refused(INDEX, x -> x.mark(0, 3, 1));
        refused(KIND, x -> x.mark(0, 0, NONE));
        refused(BAD, x -> x.mark(1, 0, 100000));
        sentence(33, "refused: nothing changes");
        refused(BAD, x -> x.pour(4));
        refused(NOTHING, x -> x.pour(3));
        sentence(34, "refused: nothing changes");
        refused(BAD, x -> x.reads(4));
        refused(NOTHING, x -> x.reads(3));
        sentence(35, "refused: nothing changes, not even some of the places");
        refused(BAD, x -> x.copy(4, 0, 0, 0, 1));
        refused(BAD, x -> x.copy(0, 0, 4, 0, 1));
        refused(NOTHING, x -> x.copy(0, 0, 3, 0, 1));
        refused(KIND, x -> x.copy(0, 0, 1, 0, 1));
        refused(INDEX, x -> x.copy(0, 1, 0, 0, 3));
        refused(INDEX, x -> x.copy(0, 0, 0, 1, 3));
        refused(INDEX, x -> x.copy(1, 0, 1, 2, 3));
        refused(INDEX, x -> x.copy(0, 0, 0, 1, -1));
    }

    private static void slotsRefused() {
        sentence(36, "refused: nothing changes, the SLOT holds what it held");
        refused(BAD, x -> x.lay(5, 3, 1));
        refused(BAD, x -> x.lay(0, 4, 0));
        refused(BAD, x -> x.lay(0, -1, 0));
        refused(BAD, x -> x.lay(0, 1, 4));
        refused(BAD, x -> x.lay(0, 2, 4));
        refused(NOTHING, x -> x.lay(0, 2, 3));
        refused(NOTHING, x -> x.lay(2, 2, 3));
        sentence(37, "refused: nothing changes");
        refused(BAD, x -> x.ask(5, 0));
        refused(BAD, x -> x.ask(0, 6));
        refused(NOTHING, x -> x.ask(3, 0));
        refused(KIND, x -> x.ask(2, 0));
        refused(KIND, x -> x.ask(0, SERMON));
        sentence(38, "refused: nothing changes");
        refused(BAD, x -> x.item(5, 0));
        refused(NOTHING, x -> x.item(3, 0));
        refused(KIND, x -> x.item(0, 0));
        refused(INDEX, x -> x.item(1, 4));
        refused(KIND, x -> x.item(1, 1));
        sentence(39, "refused: nothing changes");
        refused(BAD, x -> x.rest(5, 1));
        refused(NOTHING, x -> x.rest(3, 1));
        refused(KIND, x -> x.rest(0, 1));
        refused(NO, x -> x.rest(2, 0));
    }

    private static void withoutAnything() {
        sentence(43, "NO: nothing changes");
        stays(() -> withSaying(new DustySayings(), SALLY, 50, 9, 3), NO, DustySayings::back);
        sentence(41, "NO: nothing changes but the numbers that wait");
        stays(() -> withSaying(new DustySayings(), SALLY, 50, 9, 3), NO, x -> x.check(1));
        sentence(28, "a FAULT at the end of an empty TAPE: nothing changes");
        stays(() -> withSaying(new DustySayings(), SALLY, 50, 9, 3), -100, DustySayings::text);
    }

    private static void full() {
        sentence(2, "FULL: nothing changes");
        stays(RefusedTest::fullOfSayings, FULL, x -> x.saying(5, 1, 1));
        sentence(12, "no room for any: nothing changes, z too");
        stays(RefusedTest::fullOfSayings, 0, x -> x.deal(10));
        sentence(26, "FULL: nothing changes, THE TAPE too");
        stays(RefusedTest::fullTape, FULL, x -> x.feed(MAX, MAX, MAX));
        sentence(40, "FULL: nothing changes, the numbers that wait too");
        stays(RefusedTest::fullOfNumbers, FULL, x -> x.tell(0));
        sentence(14, "at 9999: nothing changes, z too");
        stays(RefusedTest::lastEvening, 0, x -> x.evenings(100));
    }

    private static DustySayings trimmed(DustySayings x) {
        x.trim(0);
        return x;
    }

    private static void tapeUsedUp() {
        sentence(28, "FULL: nothing changes but THE TAPE");
        DustySayings x = fullOfTexts();
        is(x.text(), FULL);
        isAs(x, trimmed(fullOfTexts()));
        sentence(28, "a FAULT: nothing changes but THE TAPE");
        for (String text : new String[] {"fine 12345", "bloom w+d)", "fee", "fee d f", "bloom ((w)", "x"}) {
            DustySayings y = rich(true);
            isTrue(write(y, text) <= -100);
            isAs(y, trimmed(rich(true)));
        }
    }

    private static void numbersUsedUp() {
        sentence(41, "BAD: nothing changes but the numbers that wait");
        for (int n : new int[] {0, 31, MIN, MAX}) {
            DustySayings x = rich(true);
            is(x.check(n), BAD);
            isAs(x, rich(false));
        }
        sentence(41, "right and wrong rows: nothing changes but the numbers that wait");
        for (int n : new int[] {1, 2, 30}) {
            DustySayings x = rich(true);
            is(x.check(n), n == 2 ? 0 : n == 1 ? 3 : 5);
            isAs(x, rich(false));
        }
    }

    private static void asks(ToIntFunction<DustySayings> call) {
        refused(call.applyAsInt(rich(true)), call);
    }

    private static void asking() {
        for (int what = 0; what <= 8; what++) {
            int w = what;
            sentence(16, "only thought: nothing changes, what " + what);
            asks(x -> x.behind(100, w));
        }
        sentence(17, "only thought: nothing changes");
        asks(x -> x.sinks(3));
        sentence(18, "only thought: nothing changes");
        asks(x -> x.hears(1, 99));
        sentence(19, "only thought: nothing changes");
        asks(x -> x.shine(20));
        sentence(20, "only thought: nothing changes");
        asks(x -> x.edge(0, 30, 0));
        sentence(21, "only thought: nothing changes");
        asks(x -> x.place(3, 60, 0));
        sentence(22, "only thought: nothing changes");
        asks(x -> x.becomes(3, 60, 0));
        sentence(23, "only thought: nothing changes");
        asks(x -> x.like(1, 1));
        sentence(24, "only told: nothing changes");
        asks(DustySayings::fee);
        sentence(25, "only told: nothing changes");
        asks(x -> x.fine(1));
        sentence(34, "only told: nothing changes");
        asks(x -> x.reads(0));
        sentence(37, "only told: nothing changes");
        asks(x -> x.ask(0, QUIP));
        sentence(38, "only told: nothing changes");
        asks(x -> x.item(1, 0));
        sentence(39, "only told: nothing changes");
        asks(x -> x.rest(2, 5));
    }
}
