/** The boundary sentences of the promises 26 to 30, with those of the terms' part 4. */
public final class TextsEdgesTest extends Edges {
    public static void main(String[] args) {
        feed();
        feedOrder();
        trim();
        usedUp();
        fourteen();
        blanks();
        everyByte();
        names();
        numbers();
        brackets();
        nots();
        ends();
        firstFault();
        longest();
        values();
        wrapping();
        bloomNames();
        textTold();
        why();
        Due.finish();
    }

    private static void taken(String text) {
        is(write(new DustySayings(), text), 0);
    }

    private static void fault(String text, int place) {
        DustySayings x = new DustySayings();
        is(write(x, text), -100 - place);
        is(x.count(5), 0);
    }

    /** Of a saying with wit 7, dust 3. */
    private static void gives(String expression, int want) {
        DustySayings x = withSaying(new DustySayings(), SAYING, 7, 3, 0);
        is(write(x, "fine " + expression), 0);
        is(x.fine(0), want);
    }

    private static String times(String part, int many) {
        StringBuilder all = new StringBuilder();
        for (int i = 0; i < many; i++) {
            all.append(part);
        }
        return all.toString();
    }

    private static void feed() {
        DustySayings x = sentence(26, "how many it has, up to 96");
        for (int i = 1; i <= 8; i++) {
            is(x.feed(0, -1, MIN), 12 * i);
        }
        sentence(26, "FULL: it would have more than 96");
        is(x.feed(0, 0, 0), FULL);
        is(x.count(7), 96);
        x.trim(95);
        is(x.feed(0, 0, 0), FULL);
        x.trim(85);
        is(x.feed(0, 0, 0), FULL);
        is(x.count(7), 85);
        x.trim(84);
        is(x.feed(0, 0, 0), 96);
        DustySayings y = sentence(26, "FULL: THE TAPE stays as it is");
        onTape(y, "fine 1234" + times(" ", 87));
        is(y.feed(MAX, MAX, MAX), FULL);
        is(y.text(), 0);
        withSaying(y, SAYING, 7, 3, 0);
        is(y.fine(0), 1234);
    }

    private static void feedOrder() {
        DustySayings x = sentence(26, "the highest of each number first");
        // "fine", " 123", "4-9 "
        is(x.feed(0x66696e65, 0x20313233, 0x342d3920), 12);
        is(x.text(), 0);
        withSaying(x, SAYING, 7, 3, 0);
        is(x.fine(0), 1225);
        sentence(26, "bytes above 127 are signs by themselves");
        x.feed(0x66696e65, 0x20f73232, 0x34343434);
        is(x.text(), -105);
        x.feed(0x66696e65, 0xa0313233, 0x34343434);
        is(x.text(), -104);
    }

    private static void trim() {
        DustySayings x = sentence(27, "BAD: n below 0, or above how many there are: none");
        is(x.trim(0), 0);
        is(x.trim(1), BAD);
        is(x.trim(-1), BAD);
        is(x.trim(96), BAD);
        sentence(27, "BAD: n below 0, or above how many there are: some");
        x.feed(0, 0, 0);
        outside(0, 12, BAD, v -> x.trim(v));
        is(x.count(7), 12);
        is(x.trim(12), 12);
        is(x.trim(11), 11);
        is(x.trim(12), BAD);
        is(x.trim(0), 0);
        is(x.count(7), 0);
        DustySayings y = sentence(27, "it keeps its first n bytes, the rest is gone");
        withSaying(y, SAYING, 7, 3, 0);
        onTape(y, "fine 12345678");
        is(y.trim(8), 8);
        is(y.text(), 0);
        is(y.fine(0), 123);
        onTape(y, "fine 1");
        y.feed(0x32202020, 0x20202020, 0x20202020);
        is(y.text(), 1);
        is(y.fine(0), 12);
    }

    private static void usedUp() {
        DustySayings x = sentence(28, "an act that reads THE TAPE uses it up: a TEXT");
        onTape(x, "fee 1");
        is(x.text(), 0);
        is(x.count(7), 0);
        is(x.text(), -100);
        sentence(28, "an act that reads THE TAPE uses it up: a FAULT");
        onTape(x, "fee ?");
        is(x.text(), -104);
        is(x.count(7), 0);
        is(x.text(), -100);
        sentence(28, "an act that reads THE TAPE uses it up: FULL");
        for (int i = 1; i < 14; i++) {
            is(write(x, "fee 1"), i);
        }
        onTape(x, "fee 1");
        is(x.text(), FULL);
        is(x.count(7), 0);
        is(x.text(), -100);
    }

    private static void fourteen() {
        DustySayings x = sentence(28, "TEXTS, 14 at most, numbered from 0");
        for (int i = 0; i < 14; i++) {
            is(write(x, "fee " + (100 + i)), i);
            is(x.count(5), i + 1);
            is(x.fee(), 100 + i);
        }
        is(write(x, "fee 200"), FULL);
        is(x.count(5), 14);
        sentence(28, "FULL: the TEXT that counts stays");
        is(x.fee(), 113);
        is(x.why(1), 13);
        is(write(x, "bloom 1"), FULL);
        is(x.why(0), NONE);
        sentence(28, "the FAULT stands ahead of FULL");
        is(write(x, "fee 200 200"), -108);
        is(write(x, ""), -100);
        DustySayings y = sentence(28, "numbers go on from THE IMAGE's, when all is as that again");
        write(y, "fee 1");
        y.keep();
        for (int i = 1; i < 14; i++) {
            write(y, "fine " + i);
        }
        is(write(y, "fee 2"), FULL);
        y.back();
        is(y.why(2), NONE);
        is(write(y, "fee 2"), 1);
        is(y.fee(), 2);
        y.back();
        is(y.fee(), 1);
    }

    private static void blanks() {
        sentence(28, "between words and signs, and at the ends, there may be blanks, and there need be none");
        taken("fine(w)");
        taken("fine!w");
        taken("   fine   (  !  w  +  12  )  *  d   ");
        taken("fine w+12*d");
        sentence(28, "a word right behind another one needs a blank");
        fault("fine12", 4);
        fault("fee1", 3);
        fault("bloom0+w", 5);
        taken("fine 12");
        sentence(28, "a word is as long as it goes");
        fault("finew", 0);
        fault("fine wd", 5);
        fault("fine dd", 5);
        fault("bloomfine w", 0);
        fault("fin e w", 0);
        fault("fine 1 2", 7);
        fault("fine w d", 7);
        fault("fine w1", 6);
        fault("fine 1w", 6);
    }

    /** Each byte at the beginning, behind the key, as a piece, and behind a piece. */
    private static void everyByte() {
        for (int b = 0; b < 256; b++) {
            sentence(28, "any other byte is a sign by itself, with which no TEXT goes on: byte " + b);
            boolean isLetter = b >= 'a' && b <= 'z';
            boolean isDigit = b >= '0' && b <= '9';
            String sign = String.valueOf((char) b);
            if (b == ' ') {
                taken(" fine 1");
                taken("fine  1");
                fault("fine  ", 6);
                taken("fine w ");
                continue;
            }
            fault(sign + "fine 1", 0);
            if (b == '!') {
                taken("fine!1");
            } else {
                fault("fine" + sign + "1", isLetter ? 0 : b == '(' ? 6 : 4);
            }
            if (isDigit || b == 'w' || b == 'd') {
                taken("fine " + sign);
            } else {
                fault("fine " + sign, b == '(' || b == '!' ? 6 : 5);
            }
            fault("fine w" + sign, "|&<=>+-*/".indexOf(b) >= 0 ? 7 : isLetter ? 5 : 6);
        }
    }

    private static void names() {
        String[] keys = {"bloom ", "fee ", "fine "};
        String[] names = {"wdhn", "df", "wd"};
        for (int key = 0; key < 3; key++) {
            for (char letter = 'a'; letter <= 'z'; letter++) {
                sentence(28, "NAMES of " + keys[key] + ": " + letter);
                if (names[key].indexOf(letter) >= 0) {
                    taken(keys[key] + letter);
                } else {
                    fault(keys[key] + letter, keys[key].length());
                }
            }
        }
        sentence(28, "KEY: bloom | fee | fine, and no other word");
        for (String word : new String[] {"bloo", "blooms", "fe", "fees", "fin", "fines", "find", "w", "d", "f", "gloom",
            "bleom", "bloon", "bee", "foe", "fed", "dine", "fane", "fife"}) {
            fault(word + " 1", 0);
        }
        fault("1 1", 0);
        fault("Fee 1", 0);
        fault("FEE 1", 0);
        fault("fee fee", 4);
        fault("fee bloom", 4);
    }

    private static void numbers() {
        sentence(28, "NUMBER: 1 to 4 digits");
        taken("fine 0");
        taken("fine 9999");
        taken("fine 0000");
        sentence(28, "FAULT: a NUMBER of more than 4 digits");
        fault("fine 10000", 5);
        fault("fine 00000", 5);
        fault("fine 1+00001", 7);
        fault("fine (99999)", 6);
        fault("fine !99999", 6);
        fault("fine 123456789012345678901234567890", 5);
        sentence(28, "a NUMBER has no sign ahead of it");
        fault("fine -1", 5);
        fault("fine +1", 5);
        fault("fine 2*-1", 7);
    }

    private static void brackets() {
        sentence(28, "eight ( may be open within others");
        taken("fine " + times("(", 8) + "w" + times(")", 8));
        sentence(28, "FAULT: the ninth ( that would be open within others");
        fault("fine " + times("(", 9) + "w" + times(")", 9), 13);
        fault("fine " + times("(", 30), 13);
        fault("fine w+" + times("(w*", 9), 7 + 8 * 3);
        fault("fine " + times("(", 8) + "w+(w)", 15);
        fault("fine " + times("(", 8) + "!(w)", 14);
        fault("fine " + times("(!", 8) + "(w)", 21);
        sentence(28, "a ( that is closed is not open within others");
        taken("fine " + times("(", 8) + "w" + times(")", 8) + "+" + times("(", 8) + "w" + times(")", 8));
        taken("fine " + times("(w)+", 20) + "w");
        taken("fine (" + times("(w)+", 20) + "w)");
        taken("fine " + times("(", 7) + "(w)+(w)" + times(")", 7));
        fault("fine " + times("(", 7) + "(w)+((w))" + times(")", 7), 17);
        sentence(28, "( and ! are counted each by itself");
        taken("fine " + times("!", 8) + times("(", 8) + "w" + times(")", 8));
        taken("fine " + times("!(", 8) + "w" + times(")", 8));
        fault("fine " + times("!", 8) + times("(", 9), 21);
        sentence(28, "a ) needs a ( that is open");
        fault("fine )", 5);
        fault("fine ()", 6);
        fault("fine w)", 6);
        fault("fine (w))", 8);
    }

    private static void nots() {
        sentence(28, "eight ! may stand within others");
        taken("fine " + times("!", 8) + "w");
        taken("fine " + times("! ", 8) + "w");
        sentence(28, "FAULT: the ninth ! likewise");
        fault("fine " + times("!", 9) + "w", 13);
        fault("fine " + times("! ", 9) + "w", 21);
        fault("fine " + times("!", 60), 13);
        sentence(28, "FAULT: the ninth ! likewise, through brackets");
        fault("fine " + times("!", 8) + "(!w)", 14);
        fault("fine " + times("!(", 4) + times("!", 5) + "w", 17);
        fault("fine !(w+" + times("!", 8) + "w)", 16);
        sentence(28, "a ! whose PIECE is behind is not open within others");
        taken("fine " + times("!", 8) + "w+" + times("!", 8) + "w");
        taken("fine " + times("!", 8) + "(w)*" + times("!", 8) + "(w)");
        taken("fine (" + times("!", 8) + "w)+" + times("!", 8) + "w");
        taken("fine " + times("!w&", 20) + "w");
        sentence(28, "( and ! are counted each by itself");
        taken("fine " + times("(", 8) + times("!", 8) + "w" + times(")", 8));
        fault("fine " + times("(", 8) + times("!", 9), 21);
    }

    private static void ends() {
        sentence(28, "FAULT: the end (the place behind the last byte), if it comes too soon");
        fault("", 0);
        fault(" ", 1);
        fault(times(" ", 96), 96);
        fault("fine", 4);
        fault("fine ", 5);
        fault("fine   ", 7);
        fault("fine w+", 7);
        fault("fine w+  ", 9);
        fault("fine !", 6);
        fault("fine (", 6);
        fault("fine (w", 7);
        fault("fine (w ", 8);
        fault("fine ((w)", 9);
        fault("fine w<", 7);
        fault("fine " + times("w+", 45) + " ", 96);
        sentence(28, "THE TAPE ends where it was trimmed");
        DustySayings x = new DustySayings();
        onTape(x, "fine w+d");
        x.trim(7);
        is(x.text(), -107);
    }

    private static void firstFault() {
        sentence(28, "FAULT: the first word or sign with which no TEXT goes on");
        fault("fine w+*12345", 7);
        fault("fine 12345+*", 5);
        fault("fine (w d d)", 8);
        fault("fine w==d", 7);
        fault("fine w<=d", 7);
        fault("fine w&&d", 7);
        fault("fine w||d", 7);
        fault("fine w!d", 6);
        fault("fine w!=d", 6);
        fault("fine w(d)", 6);
        fault("fine (w)(d)", 8);
        fault("fine (w)d", 8);
        fault("fine w,", 6);
        sentence(28, "FAULT: the first byte of a word");
        fault("fine  w  abc", 9);
        fault("fine w + hhh", 9);
        sentence(28, "TEST: one < = > at most between two SUMS");
        taken("fine w<d");
        fault("fine w<d<w", 8);
        fault("fine w<d=w", 8);
        fault("fine w=d>w", 8);
        fault("fine w+1<d+2>w", 12);
        fault("fine w<d&w<d<w", 12);
        fault("fine (w<d<w)", 9);
        taken("fine (w<d)<w");
        taken("fine w<(d<w)");
        taken("fine w<d&w=d|w>d");
        sentence(28, "a TEXT that was refused counts for nothing");
        DustySayings x = new DustySayings();
        write(x, "fee 8");
        is(write(x, "fee 9)"), -105);
        is(x.fee(), 8);
        is(x.why(1), 0);
        is(x.count(5), 1);
    }

    private static void longest() {
        sentence(28, "THE TAPE (96 bytes at most) is a TEXT, all of it");
        DustySayings x = withSaying(new DustySayings(), SAYING, 7, 3, 0);
        is(write(x, "fine " + times("1+", 45) + "1"), 0);
        is(x.fine(0), 46);
        is(x.textTold(0, 1), 46);
        is(write(x, "fine " + times("(", 8) + times("!", 8) + "0" + times(")", 8) + times("+w", 33)), 1);
        is(x.fine(0), 33 * 7);
        is(x.textTold(1, 1), 34);
        is(write(x, "fine " + times(" ", 90) + "9"), 2);
        is(x.fine(0), 9);
        is(write(x, "fine 2-(1-(2-(1-(2-(1-(2-(1-w)))))))" + times("-d", 30)), 3);
        // each pair adds 1: 2 - (1 - v) = v + 1
        is(x.fine(0), 7 + 4 - 90);
        sentence(28, "many TEXTS, each as long as can be, keep apart");
        is(x.why(2), 3);
        is(x.textTold(0, 1), 46);
    }

    private static void values() {
        sentence(25, "/ cuts towards 0");
        gives("7/2", 3);
        gives("(0-7)/2", -3);
        gives("7/(0-2)", -3);
        gives("(0-7)/(0-2)", 3);
        gives("(0-1)/2", 0);
        sentence(25, "/ is 0 by 0");
        gives("w/0", 0);
        gives("0/0", 0);
        gives("(0-w)/(w-7)", 0);
        gives("1+w/0*5", 1);
        gives("(0-8192*8192*32)/0", 0);
        sentence(25, "tests give 1 or 0, at the edge too");
        gives("w<7", 0);
        gives("w<8", 1);
        gives("w>7", 0);
        gives("w>6", 1);
        gives("w=7", 1);
        gives("w=6", 0);
        gives("0-1<0", 1);
        gives("0-1>0", 0);
        sentence(25, "& | ! give 1 or 0: what is not 0 is true, below 0 too");
        gives("5&(0-3)", 1);
        gives("5&0", 0);
        gives("0&5", 0);
        gives("0&0", 0);
        gives("4&3", 1);
        gives("(0-3)|0", 1);
        gives("0|4", 1);
        gives("4|3", 1);
        gives("0|0", 0);
        gives("!(0-3)", 0);
        gives("!0", 1);
        gives("!7", 0);
        gives("!!7", 1);
        sentence(25, "without & | a PIECE gives what it is, not 1 or 0");
        gives("7", 7);
        gives("(0-3)", -3);
        sentence(25, "within ( ) there is a whole E, from the loosest on");
        gives("(0|3)+1", 2);
        gives("(w=7&d)*5", 5);
        gives("((w<8|0)+1)*3", 6);
        sentence(25, "both sides are worked out");
        gives("1|w/0", 1);
        gives("0&w/0", 0);
    }

    private static void wrapping() {
        sentence(25, "ints wrap");
        gives("8192*8192*32", MIN);
        gives("8192*8192*32-1", MAX);
        gives("0-8192*8192*32", MIN);
        gives("(8192*8192*32-1)+1", MIN);
        gives("8192*8192*64", 0);
        gives("9999*9999*9999", 9999 * 9999 * 9999);
        gives("(0-8192*8192*32)/(0-1)", MIN);
        gives("8192*8192*32<0", 1);
        sentence(24, "ints wrap");
        DustySayings x = new DustySayings();
        write(x, "fee 8192*8192*32+d+f");
        is(x.fee(), MIN);
        sentence(3, "ints wrap, and what bloom gives is held then");
        x.saying(SAYING, 50, 0);
        write(x, "bloom 8192*8192*32+w");
        is(x.told(0, GATHERS), 0);
        write(x, "bloom 8192*8192*64+w");
        is(x.told(0, GATHERS), 50);
    }

    private static void bloomNames() {
        DustySayings x = sentence(3, "of bloom w WIT, d DUST, h HEED of its CORNER, n how many SAYINGS are in that");
        withSaying(x, SAYING, 99, 0, 2);
        withSaying(x, SAYING, 0, 99, 3);
        x.heed(2, 0);
        x.heed(3, 99);
        write(x, "bloom w");
        is(x.told(0, GATHERS), 99);
        is(x.told(1, GATHERS), 0);
        write(x, "bloom d");
        is(x.told(0, GATHERS), 0);
        is(x.told(1, GATHERS), 99);
        write(x, "bloom h");
        is(x.told(0, GATHERS), 0);
        is(x.told(1, GATHERS), 99);
        write(x, "bloom n");
        is(x.told(0, GATHERS), 1);
        for (int i = 2; i < 10; i++) {
            x.saying(REMARK, 0, 2);
            is(x.told(0, GATHERS), i);
        }
        is(x.told(1, GATHERS), 1);
        sentence(3, "n counts those that are BURIED too");
        x.set(9, DUST, 99);
        is(x.told(0, GATHERS), 9);
    }

    private static void textTold() {
        DustySayings x = sentence(29, "BAD: there is no such TEXT");
        is(x.textTold(0, 0), BAD);
        is(x.textTold(-1, 0), BAD);
        write(x, "fine w");
        outside(0, 0, BAD, v -> x.textTold(v, 0));
        is(x.textTold(13, 0), BAD);
        is(x.textTold(14, 0), BAD);
        sentence(29, "BAD: what is neither 0 nor 1");
        outside(0, 1, BAD, v -> x.textTold(0, v));
        sentence(29, "how many NUMBERS and NAMES it has: one at least, the same ones again too");
        is(x.textTold(0, 1), 1);
        write(x, "fine !(w)+(w-(10))");
        is(x.textTold(1, 1), 3);
        sentence(29, "of the last TEXT");
        for (int i = 2; i < 14; i++) {
            write(x, i == 13 ? "fee 1+1" : "bloom 1");
        }
        is(x.textTold(13, 0), 1);
        is(x.textTold(13, 1), 2);
        is(x.textTold(14, 0), BAD);
        DustySayings y = sentence(29, "BAD: a TEXT that was there ahead of THE IMAGE's return");
        y.keep();
        write(y, "fine w");
        y.back();
        is(y.textTold(0, 0), BAD);
        write(y, "bloom w+d");
        is(y.textTold(0, 0), 0);
        is(y.textTold(0, 1), 2);
    }

    private static void why() {
        DustySayings x = sentence(30, "BAD: a KEY below 0 or above 2");
        outside(0, 2, BAD, v -> x.why(v));
        sentence(30, "NONE: no TEXT counts for it");
        is(x.why(0), NONE);
        is(x.why(1), NONE);
        is(x.why(2), NONE);
        sentence(30, "that TEXT counts that was told last");
        write(x, "fee 1");
        write(x, "fee 2");
        is(x.why(1), 1);
        is(x.why(0), NONE);
        is(x.why(2), NONE);
        write(x, "bloom 3");
        is(x.why(1), 1);
        is(x.why(0), 2);
        DustySayings y = sentence(30, "that TEXT counts again that counted by THE IMAGE");
        write(y, "fine 1");
        y.keep();
        write(y, "fine 2");
        write(y, "bloom 2");
        y.back();
        is(y.why(2), 0);
        is(y.why(0), NONE);
    }
}
