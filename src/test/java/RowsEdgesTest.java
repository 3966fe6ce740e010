/** The boundary sentences of the promises 40 to 44, with those of THE IMAGE and THE EVENINGS TOLD. */
public final class RowsEdgesTest extends Edges {
    public static void main(String[] args) {
        tell();
        checkRefuses();
        checkRows();
        checkTurnedOff();
        checkMostEvenings();
        checkLastEvening();
        checkByTheImage();
        keep();
        back();
        imageLeavesOut();
        imageOfTexts();
        count();
        Due.finish();
    }

    private static void tellAll(DustySayings x, int... numbers) {
        for (int v : numbers) {
            x.tell(v);
        }
    }

    private static int checked(DustySayings x, int n, int... numbers) {
        tellAll(x, numbers);
        int answer = x.check(n);
        is(x.count(6), 0);
        return answer;
    }

    /** By the image: dusted 1 and dust 1 + 1, dusted 2 and dust 2 + 1, dusted 2 and dust 3 + 2. */
    private static DustySayings told(DustySayings x) {
        withSaying(x, REMARK, 0, 5, 0);
        x.saying(REMARK, 0, 1);
        x.keep();
        return x;
    }

    private static void tell() {
        DustySayings x = sentence(40, "any number waits, 60 of them");
        int[] any = {0, -1, MIN, MAX, NONE, FULL};
        for (int i = 1; i <= 60; i++) {
            is(x.tell(any[i % any.length]), i);
        }
        is(x.count(6), 60);
        sentence(40, "FULL: 60 wait");
        is(x.tell(0), FULL);
        is(x.tell(MAX), FULL);
        is(x.count(6), 60);
        sentence(40, "when none wait any more, 60 may again");
        x.check(1);
        is(x.tell(5), 1);
    }

    private static void checkRefuses() {
        DustySayings x = sentence(41, "BAD: n below 1 or above 30");
        x.keep();
        outside(1, 30, BAD, v -> x.check(v));
        sentence(41, "NO: there is no IMAGE");
        DustySayings y = new DustySayings();
        is(y.check(1), NO);
        is(y.check(30), NO);
        sentence(41, "BAD stands ahead of NO");
        is(y.check(0), BAD);
        is(y.check(31), BAD);
        sentence(41, "none wait then, whatever is answered: BAD, NO, 0, 1 and more");
        is(checked(y, 0, 1, 2, 3), BAD);
        is(checked(y, 1, 1, 2, 3), NO);
        DustySayings z = told(new DustySayings());
        is(checked(z, 1, 1, 2), 0);
        is(checked(z, 1, 7, 2, 3), 1);
        is(checked(z, 1, 1, 7, 3), 2);
        is(checked(z, 1, 1, 2, 3), 3);
    }

    private static void checkRows() {
        DustySayings x = told(sentence(41, "0: they are THE EVENINGS TOLD of n, two by two"));
        is(checked(x, 1, 1, 2), 0);
        is(checked(x, 2, 1, 2, 2, 3), 0);
        is(checked(x, 3, 1, 2, 2, 3, 2, 5), 0);
        sentence(41, "else 1 and how many stand right ahead of the first that is not");
        is(checked(x, 3, 0, 2, 2, 3, 2, 5), 1);
        is(checked(x, 3, 1, 0, 2, 3, 2, 5), 2);
        is(checked(x, 3, 1, 2, 0, 3, 2, 5), 3);
        is(checked(x, 3, 1, 2, 2, 0, 2, 5), 4);
        is(checked(x, 3, 1, 2, 2, 3, 0, 5), 5);
        is(checked(x, 3, 1, 2, 2, 3, 2, 0), 6);
        sentence(41, "of several that are not the first one");
        is(checked(x, 3, 1, 0, 0, 3, 2, 0), 2);
        sentence(41, "or is missing");
        is(checked(x, 1), 1);
        is(checked(x, 1, 1), 2);
        is(checked(x, 3, 1, 2, 2), 4);
        is(checked(x, 3, 1, 2, 2, 3), 5);
        is(checked(x, 3, 1, 2, 2, 3, 2), 6);
        sentence(41, "or one too many");
        is(checked(x, 1, 1, 2, 2), 3);
        is(checked(x, 2, 1, 2, 2, 3, 2, 5), 5);
        is(checked(x, 3, 1, 2, 2, 3, 2, 5, 0), 7);
        sentence(41, "one that is not stands ahead of one too many");
        is(checked(x, 1, 1, 3, 2), 2);
        sentence(41, "a number that waited at an earlier check does not come again");
        is(checked(x, 1, 1, 2), 0);
        is(checked(x, 1), 1);
        is(checked(x, 1, 1), 2);
    }

    private static void checkTurnedOff() {
        DustySayings x = told(sentence(41, "only thought: nothing changes by it"));
        is(checked(x, 30, 1, 2), 3);
        is(x.count(1), 0);
        is(x.count(8), 1);
        is(x.room(0), 0);
        is(x.room(2), 5);
        sentence(41, "THE IMAGE stays as it is by it");
        is(checked(x, 1, 1, 2), 0);
        is(x.back(), 2);
        is(x.told(0, DUST), 5);
        DustySayings none = sentence(41, "without SAYINGS: DUSTED stays, DUST is 0");
        none.keep();
        is(checked(none, 2, 0, 0, 0, 0), 0);
        is(checked(none, 2, 0, 0, 0), 4);
    }

    private static void checkMostEvenings() {
        DustySayings x = sentence(41, "n 30, and 60 numbers that wait");
        withSaying(x, REMARK, 0, 0, 0);
        x.keep();
        int[] rows = new int[60];
        for (int i = 0; i < 30; i++) {
            // gone over in the evenings 6, 12, 18, 24
            rows[2 * i] = i / 6;
            rows[2 * i + 1] = i % 6 + 1;
        }
        is(checked(x, 30, rows), 0);
        rows[59]++;
        is(checked(x, 30, rows), 60);
        rows[59]--;
        tellAll(x, rows);
        is(x.check(29), 59);
        sentence(40, "FULL: the 60 numbers that wait stay as they are");
        tellAll(x, rows);
        is(x.tell(5), FULL);
        is(x.check(30), 0);
    }

    private static void checkLastEvening() {
        DustySayings x = sentence(41, "fewer, if THE EVENING would be above 9999: two");
        passUntil(x, 9997);
        withSaying(x, REMARK, 0, 5, 0);
        x.keep();
        is(checked(x, 3, 0, 6, 0, 7), 0);
        is(checked(x, 30, 0, 6, 0, 7), 0);
        is(checked(x, 2, 0, 6, 0, 7), 0);
        is(checked(x, 1, 0, 6), 0);
        is(checked(x, 30, 0, 6, 0, 7, 0, 8), 5);
        is(checked(x, 30, 0, 6, 0), 4);
        sentence(41, "fewer, if THE EVENING would be above 9999: one");
        x.evenings(1);
        x.keep();
        is(checked(x, 2, 0, 7), 0);
        is(checked(x, 2, 0, 7, 0, 8), 3);
        sentence(41, "fewer, if THE EVENING would be above 9999: none");
        x.evenings(1);
        x.keep();
        is(checked(x, 1), 0);
        is(checked(x, 30), 0);
        is(checked(x, 30, 0), 1);
        is(checked(x, 30, 0, 8), 1);
        sentence(41, "by THE IMAGE's EVENING, not by that of now");
        DustySayings y = new DustySayings();
        withSaying(y, REMARK, 0, 5, 3);
        y.keep();
        passUntil(y, 9999);
        is(checked(y, 2, 0, 6, 0, 7), 0);
    }

    private static void checkByTheImage() {
        DustySayings x = told(sentence(41, "by THE IMAGE: what came since is left out"));
        x.set(0, DUST, 50);
        x.saying(SERMON, 50, 0);
        x.heed(0, 0);
        x.kicks(100);
        x.seed(77);
        write(x, "bloom 50");
        x.evenings(3);
        is(checked(x, 3, 1, 2, 2, 3, 2, 5), 0);
        DustySayings y = sentence(41, "by THE IMAGE: its KICKS and z count");
        withSaying(y, SAYING, 0, 99, 5);
        y.seed(61);
        y.kicks(1);
        y.keep();
        y.kicks(0);
        is(checked(y, 1, 0, 0), 0);
        y.kicks(1);
        y.seed(18);
        is(checked(y, 1, 0, 0), 0);
        y.keep();
        is(checked(y, 1, 0, 99), 0);
        DustySayings h = sentence(41, "by THE IMAGE: its HEED and TEXTS count");
        withSaying(h, SAYING, 0, 10, 5);
        h.heed(5, 20);
        write(h, "bloom h");
        h.keep();
        h.heed(5, 21);
        is(checked(h, 1, 0, 30), 0);
        write(h, "bloom 1");
        is(checked(h, 1, 0, 30), 0);
        sentence(41, "DUSTED is what it is behind each EVENING, with what THE IMAGE had");
        DustySayings z = new DustySayings();
        withSaying(z, REMARK, 0, 5, 0);
        z.dusts(0);
        z.dusts(0);
        z.set(0, DUST, 5);
        z.dusts(0);
        z.keep();
        is(checked(z, 1, 2, 1), 0);
        is(checked(z, 1, 0, 1), 1);
    }

    private static void keep() {
        DustySayings x = sentence(42, "how many SAYINGS: none to ten");
        is(x.keep(), 0);
        for (int i = 1; i <= 10; i++) {
            x.saying(SAYING, 50, 0);
            is(x.keep(), i);
        }
        sentence(42, "the last IMAGE that was kept is THE IMAGE");
        DustySayings y = new DustySayings();
        y.saying(SAYING, 50, 0);
        y.keep();
        y.set(0, WIT, 60);
        y.keep();
        y.set(0, WIT, 70);
        is(y.back(), 1);
        is(y.told(0, WIT), 60);
        sentence(42, "an IMAGE without SAYINGS takes the place of one with some");
        DustySayings z = new DustySayings();
        z.keep();
        z.deal(10);
        is(z.back(), 0);
        is(z.keep(), 0);
        is(z.back(), 0);
        sentence(42, "what changes then does not change THE IMAGE");
        DustySayings w = new DustySayings();
        w.deal(3);
        int wit = w.told(2, WIT);
        w.keep();
        w.set(2, WIT, 99 - wit);
        w.evenings(50);
        w.back();
        is(w.told(2, WIT), wit);
        is(w.count(1), 0);
    }

    private static void back() {
        DustySayings x = sentence(43, "NO: there is none");
        x.deal(2);
        is(x.back(), NO);
        is(x.count(0), 2);
        sentence(43, "how many SAYINGS");
        x.keep();
        x.deal(8);
        is(x.back(), 2);
        sentence(43, "all is as THE IMAGE: each of what it keeps");
        DustySayings y = new DustySayings();
        withSaying(y, SALLY, 41, 9, 2);
        y.dusts(0);
        y.set(0, DUST, 12);
        y.heed(0, 11);
        y.heed(5, 12);
        y.kicks(13);
        y.evenings(1);
        y.seed(14);
        write(y, "fee 15");
        int dust = y.told(0, DUST);
        y.keep();
        for (int again = 0; again < 3; again++) {
            y.turns(0, DRONE);
            y.set(0, WIT, 1);
            y.set(0, DUST, 77);
            y.moves(0, 4);
            y.dusts(0);
            y.saying(SAYING, 50, 0);
            y.heed(0, 0);
            y.heed(5, 0);
            y.kicks(100);
            y.evenings(20);
            y.seed(0);
            write(y, "fee 16");
            is(y.back(), 1);
            is(y.told(0, 0), SALLY);
            is(y.told(0, WIT), 41);
            is(y.told(0, DUST), dust);
            is(y.told(0, CORNER), 2);
            is(y.told(0, TURNED), 1);
            is(y.cornerOf(0, 0), 11);
            is(y.cornerOf(5, 0), 12);
            is(y.count(0), 1);
            is(y.count(1), 1);
            is(y.count(2), 13);
            is(y.count(3), 1);
            is(y.count(4), 0);
            is(y.count(5), 1);
            is(y.count(8), 14);
            is(y.fee(), 15);
        }
        sentence(43, "FOUND is as THE IMAGE too");
        DustySayings z = new DustySayings();
        withSaying(z, REMARK, 50, 99, 5);
        z.seed(61);
        z.kicks(1);
        z.evenings(1);
        z.keep();
        z.set(0, DUST, 99);
        z.moves(0, 5);
        z.seed(61);
        z.evenings(1);
        is(z.room(1), 2);
        z.back();
        is(z.room(1), 1);
        sentence(43, "THE EVENING can be passed again from THE IMAGE's on");
        DustySayings w = new DustySayings();
        passUntil(w, 9990);
        w.keep();
        w.evenings(100);
        is(w.count(1), 9999);
        w.back();
        is(w.count(1), 9990);
        w.evenings(5);
        is(w.count(1), 9995);
    }

    private static void imageLeavesOut() {
        DustySayings x = sentence(43, "AN IMAGE keeps all but SHEETS");
        x.sheet(0, 0, 2);
        x.sheet(1, 0, 2);
        x.keep();
        row(x, 0, 5, 6);
        x.sheet(1, -1, 0);
        x.sheet(2, 1, 0);
        x.back();
        isRow(x, 0, 5, 6);
        is(x.reads(1), NOTHING);
        is(x.reads(2), NONE);
        DustySayings y = sentence(43, "AN IMAGE keeps all but SLOTS");
        y.lay(0, 3, 5);
        y.lay(1, 3, 5);
        y.keep();
        y.lay(0, 3, 6);
        y.lay(1, 0, 0);
        y.back();
        is(y.rest(0, 10), 6);
        is(y.rest(1, 10), NOTHING);
        DustySayings z = sentence(43, "AN IMAGE keeps all but numbers that wait");
        z.tell(1);
        z.keep();
        z.tell(2);
        z.back();
        is(z.count(6), 2);
        DustySayings w = sentence(43, "AN IMAGE keeps all but THE TAPE");
        w.feed(0, 0, 0);
        w.keep();
        onTape(w, "fine w");
        w.back();
        is(w.count(7), 6);
        is(w.text(), 0);
    }

    /** A text behind the image's last takes a number again that another one had. */
    private static void imageOfTexts() {
        DustySayings x = sentence(43, "TEXTS are as THE IMAGE: a number that is taken again is the new TEXT's");
        x.saying(SAYING, 50, 5);
        write(x, "bloom 5");
        x.keep();
        write(x, "bloom 6+1+1");
        write(x, "fine 66");
        is(x.told(0, GATHERS), 8);
        x.back();
        is(x.told(0, GATHERS), 5);
        is(x.fine(0), 0);
        is(x.count(5), 1);
        is(write(x, "fine 7"), 1);
        is(x.fine(0), 7);
        is(x.textTold(1, 0), 2);
        is(x.textTold(1, 1), 1);
        is(x.told(0, GATHERS), 5);
        sentence(43, "TEXTS of an IMAGE that was kept later are kept");
        x.keep();
        for (int i = 2; i < 14; i++) {
            write(x, "fine 8");
        }
        is(x.count(5), 14);
        x.back();
        is(x.fine(0), 7);
        is(x.count(5), 2);
    }

    private static void count() {
        DustySayings x = sentence(44, "BAD: what is below 0 or above 8");
        outside(0, 8, BAD, v -> x.count(v));
        sentence(44, "each of what is counted by itself");
        withSaying(x, REMARK, 50, 5, 0);
        x.dusts(0);
        x.set(0, DUST, 99);
        x.moves(0, 5);
        x.kicks(1);
        x.seed(61);
        x.evenings(1);
        write(x, "fee 1");
        write(x, "fee 1");
        tellAll(x, 1, 1, 1);
        x.feed(0, 0, 0);
        x.seed(1234567);
        x.dusts(0);
        x.set(0, DUST, 5);
        x.dusts(0);
        x.kicks(17);
        is(x.count(0), 1);
        is(x.count(1), 1);
        is(x.count(2), 17);
        is(x.count(3), 2);
        is(x.count(4), 1);
        is(x.count(5), 2);
        is(x.count(6), 3);
        is(x.count(7), 12);
        is(x.count(8), 1234567);
    }
}
