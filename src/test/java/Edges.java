import java.util.function.IntUnaryOperator;

/** What the tests of the document's boundary sentences share: a sentence is named, then its answers are asked for. */
abstract class Edges {
    static final int BAD = DustySayings.BAD, NO = DustySayings.NO, FULL = DustySayings.FULL,
            NONE = DustySayings.NONE, NOTHING = DustySayings.NOTHING, KIND = DustySayings.KIND,
            INDEX = DustySayings.INDEX, SIZE = DustySayings.SIZE;
    static final int MIN = Integer.MIN_VALUE, MAX = Integer.MAX_VALUE;
    static final int SAYING = 0, QUIP = 1, SERMON = 2, SALLY = 3, DRONE = 4, REMARK = 5;
    static final int WIT = 1, DUST = 2, CORNER = 3, TURNED = 4, GATHERS = 5, DRAWS = 6, WORTH = 7;

    private static String sentence = "";
    private static int asked = 0;

    static {
        // no call may throw; if one does, its sentence is named all the same
        Thread.setDefaultUncaughtExceptionHandler((thread, thrown) -> {
            System.out.println("[" + sentence + "] answer " + (asked + 1) + " did not come:");
            thrown.printStackTrace(System.out);
            System.exit(1);
        });
    }

    /** Begins a sentence of a promise, with a new object. */
    static DustySayings sentence(int promise, String words) {
        sentence = "promise " + promise + ": " + words;
        asked = 0;
        return new DustySayings();
    }

    static void is(int got, int want) {
        asked++;
        Due.due("[" + sentence + "] answer " + asked, got, want);
    }

    static void isTrue(boolean isSo) {
        is(isSo ? 1 : 0, 1);
    }

    /** Right outside of what is taken, and farthest out, the call answers the same. */
    static void outside(int least, int most, int want, IntUnaryOperator call) {
        is(call.applyAsInt(least - 1), want);
        is(call.applyAsInt(most + 1), want);
        is(call.applyAsInt(MIN), want);
        is(call.applyAsInt(MAX), want);
    }

    static DustySayings withSaying(DustySayings x, int kind, int wit, int dust, int corner) {
        int i = x.saying(kind, wit, corner);
        x.set(i, DUST, dust);
        return x;
    }

    /** Puts a text on the tape, bytes and all, and leaves it there. */
    static void onTape(DustySayings x, String text) {
        x.trim(0);
        for (int at = 0; at < text.length(); at += 12) {
            int[] v = new int[3];
            for (int i = 0; i < 12; i++) {
                v[i / 4] = v[i / 4] << 8 | (at + i < text.length() ? text.charAt(at + i) & 255 : ' ');
            }
            x.feed(v[0], v[1], v[2]);
        }
        x.trim(text.length());
    }

    static int write(DustySayings x, String text) {
        onTape(x, text);
        return x.text();
    }

    /** Lets evenings pass until the last one but so many; a room without sayings stays as it is. */
    static void passUntil(DustySayings x, int evening) {
        for (int i = 0; i < 100 && x.count(1) < evening; i++) {
            x.evenings(Math.min(100, evening - x.count(1)));
        }
    }

    static void row(DustySayings x, int sheet, int... v) {
        for (int i = 0; i < v.length; i++) {
            x.mark(sheet, i, v[i]);
        }
    }

    /** A sheet holds these places and no more; slot 4 is used for it. */
    static void isRow(DustySayings x, int sheet, int... want) {
        x.lay(4, 2, sheet);
        for (int i = 0; i < want.length; i++) {
            is(x.item(4, i), want[i]);
        }
        is(x.item(4, want.length), INDEX);
    }
}
