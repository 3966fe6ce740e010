/** Sayings that gather dust in a drawing room, and what will become of them. */
public final class DustySayings {
    public static final int BAD = -1000000001, NO = -1000000002, FULL = -1000000003, NONE = -1000000005,
            NOTHING = -1000000011, KIND = -1000000012, INDEX = -1000000013, SIZE = -1000000014;

    private static final int LAST_EVENING = 9999;
    private static final int FARTHEST = 200;
    private static final int MOST_WAITING = 60;
    private static final int SHEETS = 4;
    private static final int SLOTS = 5;

    private final Laws laws;
    private final Room now;
    private final Room image;
    /** Every question about what will be is played here, so that asking makes no new rows. */
    private final Room thought;
    private final Tape tape;
    private final Sheet[] sheets;
    private final Slot[] slots;
    private final int[] waiting;
    private final int[] differences;
    private boolean hasImage;
    private int waits;

    public DustySayings() {
        laws = new Laws();
        now = new Room(laws);
        image = new Room(laws);
        thought = new Room(laws);
        tape = new Tape();
        sheets = new Sheet[SHEETS];
        for (int i = 0; i < SHEETS; i++) {
            sheets[i] = new Sheet();
        }
        slots = new Slot[SLOTS];
        for (int i = 0; i < SLOTS; i++) {
            slots[i] = new Slot();
        }
        waiting = new int[MOST_WAITING];
        differences = new int[Room.MOST_SAYINGS];
    }

    // ---- sayings

    public int saying(int kind, int wit, int corner) {
        if (!Kinds.isKind(kind) || !isWithin(wit, 0, 99) || !Room.isCorner(corner)) {
            return BAD;
        }
        return now.add(kind, wit, 0, corner);
    }

    public int told(int saying, int what) {
        if (!now.has(saying)) {
            return BAD;
        }
        switch (what) {
            case 0: return now.kind[saying];
            case 1: return now.wit[saying];
            case 2: return now.dust[saying];
            case 3: return now.corner[saying];
            case 4: return now.turned[saying];
            case 5: return now.gathers(saying);
            case 6: return now.draws(saying);
            case 7: return now.worth(saying);
            default: return BAD;
        }
    }

    public int as(int saying, int kind) {
        if (!now.has(saying) || !Kinds.isKind(kind)) {
            return BAD;
        }
        return Kinds.isUnder(now.kind[saying], kind) ? now.wit[saying] : KIND;
    }

    public int turns(int saying, int kind) {
        if (!now.has(saying) || !Kinds.isKind(kind)) {
            return BAD;
        }
        int was = now.kind[saying];
        now.kind[saying] = kind;
        return was;
    }

    public int set(int saying, int what, int v) {
        if (!now.has(saying) || !isWithin(what, 1, 2) || !isWithin(v, 0, 99)) {
            return BAD;
        }
        int[] row = what == 1 ? now.wit : now.dust;
        int was = row[saying];
        row[saying] = v;
        return was;
    }

    public int moves(int saying, int corner) {
        if (!now.has(saying) || !Room.isCorner(corner)) {
            return BAD;
        }
        int was = now.corner[saying];
        now.corner[saying] = corner;
        return was;
    }

    public int dusts(int saying) {
        if (!now.has(saying)) {
            return BAD;
        }
        int was = now.dust[saying];
        now.goOver(saying);
        return was;
    }

    public int heed(int corner, int v) {
        if (!Room.isCorner(corner) || !isWithin(v, 0, 99)) {
            return BAD;
        }
        int was = now.heeds[corner];
        now.heeds[corner] = v;
        return was;
    }

    public int cornerOf(int corner, int what) {
        if (!Room.isCorner(corner)) {
            return BAD;
        }
        switch (what) {
            case 0: return now.heeds[corner];
            case 1: return now.sayingsIn(corner);
            case 2: return now.worthIn(corner);
            case 3: return Integer.bitCount(now.sayingsIn(corner) & now.buried());
            case 4: return now.drawnIn(corner);
            default: return BAD;
        }
    }

    public int kicks(int v) {
        if (!isWithin(v, 0, 100)) {
            return BAD;
        }
        int was = now.kicking;
        now.kicking = v;
        return was;
    }

    public int deal(int n) {
        if (!isWithin(n, 1, 10)) {
            return BAD;
        }
        int came = 0;
        for (int i = 0; i < n && !now.isFull(); i++) {
            now.addByLot();
            came++;
        }
        return came;
    }

    public int seed(int v) {
        int was = now.z;
        now.z = v;
        return was;
    }

    // ---- evenings

    public int evenings(int n) {
        if (!isWithin(n, 1, 100)) {
            return BAD;
        }
        int was = now.dusted;
        for (int i = 0; i < n && now.evening < LAST_EVENING; i++) {
            now.passEvening();
        }
        return now.dusted - was;
    }

    public int room(int what) {
        switch (what) {
            case 0: return now.dusted;
            case 1: return now.found;
            case 2: return now.allDust();
            case 3: return now.buried();
            case 4: return now.cornersWithSayings();
            case 5: return now.deafest();
            default: return BAD;
        }
    }

    // ---- what will be

    public int behind(int n, int what) {
        if (!isWithin(n, 0, 100) || !isWithin(what, 0, 2 + Room.CORNERS)) {
            return BAD;
        }
        thought.become(now);
        thought.passEvenings(n);
        switch (what) {
            case 0: return thought.dusted;
            case 1: return thought.found;
            case 2: return Integer.bitCount(thought.buried());
            default: return thought.heeds[what - 3];
        }
    }

    public int sinks(int saying) {
        if (!now.has(saying)) {
            return BAD;
        }
        thought.become(now);
        for (int k = 0; k <= FARTHEST; k++) {
            if (thought.isBuried(saying)) {
                return k;
            }
            thought.passEvening();
        }
        return NONE;
    }

    public int hears(int corner, int v) {
        if (!Room.isCorner(corner) || !isWithin(v, 0, 99)) {
            return BAD;
        }
        thought.become(now);
        for (int k = 0; k <= FARTHEST; k++) {
            if (thought.heeds[corner] >= v) {
                return k;
            }
            thought.passEvening();
        }
        return NONE;
    }

    public int shine(int n) {
        if (!isWithin(n, 0, 20)) {
            return BAD;
        }
        int sets = 1 << now.size;
        for (int many = 0; many <= now.size; many++) {
            for (int set = 0; set < sets; set++) {
                if (Integer.bitCount(set) == many && isEnoughShine(set, n)) {
                    return set;
                }
            }
        }
        return NONE;
    }

    private boolean isEnoughShine(int set, int n) {
        thought.become(now);
        thought.brighten(set);
        thought.passEvenings(n);
        return Integer.bitCount(thought.buried()) <= Integer.bitCount(now.buried());
    }

    public int edge(int saying, int n, int v) {
        if (!now.has(saying) || !isWithin(n, 0, 30) || !isWithin(v, 0, 99)) {
            return BAD;
        }
        for (int wit = 0; wit <= 99; wit++) {
            thought.become(now);
            thought.wit[saying] = wit;
            thought.passEvenings(n);
            if (thought.dust[saying] <= v) {
                return wit;
            }
        }
        return NONE;
    }

    public int place(int saying, int n, int what) {
        if (!now.has(saying) || !isWithin(n, 1, 60) || !isWithin(what, 0, 1)) {
            return BAD;
        }
        int best = 0;
        int least = Room.BURIED + 1;
        for (int corner = 0; corner < Room.CORNERS; corner++) {
            thought.become(now);
            thought.corner[saying] = corner;
            thought.passEvenings(n);
            if (thought.dust[saying] < least) {
                best = corner;
                least = thought.dust[saying];
            }
        }
        return what == 0 ? best : least;
    }

    public int becomes(int saying, int n, int what) {
        if (!now.has(saying) || !isWithin(n, 1, 60) || !isWithin(what, 0, 1)) {
            return BAD;
        }
        int best = 0;
        int most = -1;
        for (int kind = 0; kind < Kinds.MANY; kind++) {
            thought.become(now);
            thought.kind[saying] = kind;
            thought.passEvenings(n);
            if (thought.allHeed() > most) {
                best = kind;
                most = thought.allHeed();
            }
        }
        return what == 0 ? best : most;
    }

    public int like(int sheet, int what) {
        if (!isSheet(sheet) || !isWithin(what, 0, 1)) {
            return BAD;
        }
        if (sheets[sheet].isMissing()) {
            return NOTHING;
        }
        if (now.size == 0) {
            return NONE;
        }
        gatherDifferences(sheets[sheet]);
        int best = 0;
        for (int i = 1; i < now.size; i++) {
            if (differences[i] < differences[best]) {
                best = i;
            }
        }
        return what == 0 ? best : differences[best];
    }

    private void gatherDifferences(Sheet row) {
        for (int i = 0; i < now.size; i++) {
            differences[i] = 0;
        }
        thought.become(now);
        for (int k = 0; k < row.size; k++) {
            for (int i = 0; i < now.size && row.isNumber(k); i++) {
                differences[i] += Math.abs(thought.dust[i] - row.places[k]);
            }
            thought.passEvening();
        }
    }

    public int fee() {
        return now.feeGiven();
    }

    public int fine(int saying) {
        return now.has(saying) ? now.fineGiven(saying) : BAD;
    }

    // ---- texts

    public int feed(int a, int b, int c) {
        if (!tape.hasRoom(12)) {
            return FULL;
        }
        tape.add(a);
        tape.add(b);
        tape.add(c);
        return tape.size;
    }

    public int trim(int n) {
        if (!isWithin(n, 0, tape.size)) {
            return BAD;
        }
        tape.size = n;
        return n;
    }

    public int text() {
        boolean isText = tape.isText();
        tape.size = 0;
        if (!isText) {
            return -100 - tape.start;
        }
        if (now.texts >= Laws.MOST_TEXTS) {
            return FULL;
        }
        laws.write(now.texts, tape);
        now.counting[tape.key] = now.texts;
        now.texts++;
        return now.texts - 1;
    }

    public int textTold(int text, int what) {
        if (!isWithin(text, 0, now.texts - 1) || !isWithin(what, 0, 1)) {
            return BAD;
        }
        return what == 0 ? laws.keys[text] : laws.leaves[text];
    }

    public int why(int key) {
        return isWithin(key, 0, Laws.KEYS - 1) ? now.counting[key] : BAD;
    }

    // ---- sheets, slots

    public int sheet(int sheet, int sort, int n) {
        if (!isSheet(sheet) || !isWithin(sort, Sheet.MISSING, Sheet.FLOATS)) {
            return BAD;
        }
        if (sort == Sheet.MISSING) {
            sheets[sheet].begin(Sheet.MISSING, 0);
            return 0;
        }
        if (n > Sheet.MOST_PLACES) {
            return BAD;
        }
        if (n < 0) {
            return SIZE;
        }
        sheets[sheet].begin(sort, n);
        return n;
    }

    public int mark(int sheet, int place, int v) {
        if (!isSheet(sheet)) {
            return BAD;
        }
        Sheet row = sheets[sheet];
        if (row.isMissing()) {
            return NOTHING;
        }
        if (!row.has(place)) {
            return INDEX;
        }
        if (row.sort == Sheet.SHORTS) {
            if (v == NONE) {
                return KIND;
            }
            row.places[place] = (short) v;
            return 1;
        }
        if (v != NONE && !isWithin(v, -99999, 99999)) {
            return BAD;
        }
        row.places[place] = v;
        return 1;
    }

    public int pour(int sheet) {
        if (!isSheet(sheet)) {
            return BAD;
        }
        Sheet row = sheets[sheet];
        if (row.isMissing()) {
            return NOTHING;
        }
        int changed = 0;
        for (int i = 0; i < Room.CORNERS && i < row.size; i++) {
            int was = now.heeds[i];
            if (row.isNumber(i)) {
                now.heeds[i] = Room.held(row.places[i]);
            }
            if (now.heeds[i] != was) {
                changed++;
            }
        }
        return changed;
    }

    public int reads(int sheet) {
        if (!isSheet(sheet)) {
            return BAD;
        }
        Sheet row = sheets[sheet];
        if (row.isMissing()) {
            return NOTHING;
        }
        for (int i = 0; i < row.size; i++) {
            boolean isSo = now.has(i) && now.corner[i] == row.places[i];
            if (row.isNumber(i) && !isSo) {
                return i;
            }
        }
        return NONE;
    }

    public int copy(int from, int place, int to, int at, int many) {
        if (!isSheet(from) || !isSheet(to)) {
            return BAD;
        }
        Sheet source = sheets[from];
        Sheet target = sheets[to];
        if (source.isMissing() || target.isMissing()) {
            return NOTHING;
        }
        if (source.sort != target.sort) {
            return KIND;
        }
        if (!source.hasRun(place, many) || !target.hasRun(at, many)) {
            return INDEX;
        }
        System.arraycopy(source.places, place, target.places, at, many);
        return many;
    }

    public int lay(int slot, int thing, int k) {
        if (!isSlot(slot) || !isWithin(thing, Slot.EMPTY, Slot.NUMBER)) {
            return BAD;
        }
        if (thing == Slot.SAYING && !now.has(k) || thing == Slot.SHEET && !isSheet(k)) {
            return BAD;
        }
        if (thing == Slot.SHEET && sheets[k].isMissing()) {
            return NOTHING;
        }
        Slot held = slots[slot];
        int was = held.thing;
        held.thing = thing;
        if (thing == Slot.SAYING) {
            held.holdSaying(now.kind[k], now.wit[k], now.dust[k]);
        } else if (thing == Slot.SHEET) {
            held.row.become(sheets[k]);
        } else {
            held.number = k;
        }
        return was;
    }

    public int ask(int slot, int kind) {
        if (!isSlot(slot) || !Kinds.isKind(kind)) {
            return BAD;
        }
        Slot held = slots[slot];
        if (held.thing == Slot.EMPTY) {
            return NOTHING;
        }
        if (held.thing != Slot.SAYING || !Kinds.isUnder(held.kind, kind)) {
            return KIND;
        }
        return Kinds.worth(held.kind, held.wit, held.dust);
    }

    public int item(int slot, int place) {
        if (!isSlot(slot)) {
            return BAD;
        }
        Slot held = slots[slot];
        if (held.thing == Slot.EMPTY) {
            return NOTHING;
        }
        if (held.thing != Slot.SHEET) {
            return KIND;
        }
        if (!held.row.has(place)) {
            return INDEX;
        }
        return held.row.isNumber(place) ? held.row.places[place] : KIND;
    }

    public int rest(int slot, int n) {
        if (!isSlot(slot)) {
            return BAD;
        }
        Slot held = slots[slot];
        if (held.thing == Slot.EMPTY) {
            return NOTHING;
        }
        if (held.thing != Slot.NUMBER) {
            return KIND;
        }
        return n == 0 ? NO : held.number % n;
    }

    // ---- rows, images

    public int tell(int v) {
        if (waits >= MOST_WAITING) {
            return FULL;
        }
        waiting[waits] = v;
        waits++;
        return waits;
    }

    public int check(int n) {
        int numbers = waits;
        waits = 0;
        if (!isWithin(n, 1, 30)) {
            return BAD;
        }
        if (!hasImage) {
            return NO;
        }
        int right = 0;
        thought.become(image);
        for (int i = 0; i < n && thought.evening < LAST_EVENING; i++) {
            thought.passEvening();
            if (right >= numbers || waiting[right] != thought.dusted) {
                return 1 + right;
            }
            right++;
            if (right >= numbers || waiting[right] != thought.allDust()) {
                return 1 + right;
            }
            right++;
        }
        return right == numbers ? 0 : 1 + right;
    }

    public int keep() {
        image.become(now);
        hasImage = true;
        return now.size;
    }

    public int back() {
        if (!hasImage) {
            return NO;
        }
        now.become(image);
        return now.size;
    }

    public int count(int what) {
        switch (what) {
            case 0: return now.size;
            case 1: return now.evening;
            case 2: return now.kicking;
            case 3: return now.dusted;
            case 4: return now.found;
            case 5: return now.texts;
            case 6: return waits;
            case 7: return tape.size;
            case 8: return now.z;
            default: return BAD;
        }
    }

    private static boolean isWithin(int v, int least, int most) {
        return v >= least && v <= most;
    }

    private static boolean isSheet(int sheet) {
        return isWithin(sheet, 0, SHEETS - 1);
    }

    private static boolean isSlot(int slot) {
        return isWithin(slot, 0, SLOTS - 1);
    }

    /** The kinds, and which is under which. */
    private static final class Kinds {
        static final int SAYING = 0, QUIP = 1, SERMON = 2, SALLY = 3, DRONE = 4, REMARK = 5;
        static final int MANY = 6;

        static boolean isKind(int kind) {
            return isWithin(kind, 0, MANY - 1);
        }

        static boolean isUnder(int kind, int above) {
            return kind == above || above == SAYING
                    || kind == SALLY && above == QUIP
                    || kind == DRONE && above == SERMON;
        }

        static int worth(int kind, int wit, int dust) {
            int plain = Math.max(0, wit - dust);
            switch (kind) {
                case QUIP: return plain + 5;
                case SALLY: return 2 * (plain + 5);
                case SERMON: return 99 - plain;
                case DRONE: return (99 - plain) / 2;
                case REMARK: return dust;
                default: return plain;
            }
        }
    }

    /** All that an image keeps. */
    private static final class Room {
        static final int CORNERS = 6;
        static final int MOST_SAYINGS = 10;
        static final int BURIED = 99;

        final Laws laws;
        final int[] kind = new int[MOST_SAYINGS];
        final int[] wit = new int[MOST_SAYINGS];
        final int[] dust = new int[MOST_SAYINGS];
        final int[] corner = new int[MOST_SAYINGS];
        final int[] turned = new int[MOST_SAYINGS];
        final int[] heeds = new int[CORNERS];
        /** Of each key the text that counts; texts are only ever added, so a number is enough. */
        final int[] counting = new int[Laws.KEYS];
        int size;
        int texts;
        int kicking;
        int dusted;
        int found;
        int evening;
        int z = 1;

        Room(Laws laws) {
            this.laws = laws;
            for (int i = 0; i < CORNERS; i++) {
                heeds[i] = 50;
            }
            for (int i = 0; i < Laws.KEYS; i++) {
                counting[i] = NONE;
            }
        }

        static boolean isCorner(int corner) {
            return isWithin(corner, 0, CORNERS - 1);
        }

        static int held(int v) {
            return Math.max(0, Math.min(99, v));
        }

        void become(Room other) {
            System.arraycopy(other.kind, 0, kind, 0, MOST_SAYINGS);
            System.arraycopy(other.wit, 0, wit, 0, MOST_SAYINGS);
            System.arraycopy(other.dust, 0, dust, 0, MOST_SAYINGS);
            System.arraycopy(other.corner, 0, corner, 0, MOST_SAYINGS);
            System.arraycopy(other.turned, 0, turned, 0, MOST_SAYINGS);
            System.arraycopy(other.heeds, 0, heeds, 0, CORNERS);
            System.arraycopy(other.counting, 0, counting, 0, Laws.KEYS);
            size = other.size;
            texts = other.texts;
            kicking = other.kicking;
            dusted = other.dusted;
            found = other.found;
            evening = other.evening;
            z = other.z;
        }

        boolean has(int saying) {
            return isWithin(saying, 0, size - 1);
        }

        boolean isFull() {
            return size >= MOST_SAYINGS;
        }

        boolean isBuried(int i) {
            return dust[i] >= BURIED;
        }

        int add(int ofKind, int withWit, int withDust, int inCorner) {
            if (isFull()) {
                return FULL;
            }
            kind[size] = ofKind;
            wit[size] = withWit;
            dust[size] = withDust;
            corner[size] = inCorner;
            turned[size] = 0;
            size++;
            return size - 1;
        }

        void addByLot() {
            int ofKind = draw() % Kinds.MANY;
            int withWit = draw() % 100;
            int withDust = draw() % 60;
            int inCorner = draw() % CORNERS;
            add(ofKind, withWit, withDust, inCorner);
        }

        int draw() {
            z = z * 1103515245 + 12345;
            return z >>> 8;
        }

        void goOver(int i) {
            if (dust[i] > 0) {
                dust[i] = 0;
                turned[i]++;
                dusted++;
            }
        }

        void brighten(int set) {
            for (int i = 0; i < size; i++) {
                if ((set >> i & 1) != 0) {
                    wit[i] = 99;
                }
            }
        }

        void passEvenings(int n) {
            for (int i = 0; i < n; i++) {
                passEvening();
            }
        }

        void passEvening() {
            int dustiest = dustiestIn(evening % CORNERS);
            if (dustiest != NONE) {
                goOver(dustiest);
            }
            for (int i = 0; i < size; i++) {
                // none gathers less than 0, so what is buried needs no working out
                if (!isBuried(i)) {
                    dust[i] = Math.min(BURIED, dust[i] + gathers(i));
                }
            }
            for (int i = 0; i < CORNERS; i++) {
                heeds[i] = held(heeds[i] + drawnIn(i));
            }
            kickByChance();
            evening++;
        }

        /** The maid begins with the clergy: sermons and drones stand ahead of all others. */
        int dustiestIn(int place) {
            int best = NONE;
            boolean isClergy = false;
            for (int i = 0; i < size; i++) {
                if (corner[i] != place) {
                    continue;
                }
                boolean preaches = Kinds.isUnder(kind[i], Kinds.SERMON);
                boolean isFirst = best == NONE || preaches && !isClergy;
                if (isFirst || preaches == isClergy && dust[i] > dust[best]) {
                    best = i;
                    isClergy = preaches;
                }
            }
            return best;
        }

        void kickByChance() {
            boolean isKick = draw() % 100 < kicking;
            if (!isKick || size <= 0) {
                return;
            }
            int kicked = draw() % size;
            int where = draw() % CORNERS;
            if (isBuried(kicked)) {
                corner[kicked] = where;
                dust[kicked] = 0;
                found++;
            }
        }

        int gathers(int i) {
            if (kind[i] == Kinds.REMARK) {
                return 1;
            }
            if (kind[i] == Kinds.SALLY && wit[i] > 80) {
                return 0;
            }
            int plain = plainBloom(i);
            switch (kind[i]) {
                case Kinds.QUIP:
                case Kinds.SALLY: return Math.max(0, plain - 2 * othersBeside(i, Kinds.QUIP));
                case Kinds.SERMON: return plain + 2;
                case Kinds.DRONE: return 2 * (plain + 2);
                default: return plain;
            }
        }

        private int plainBloom(int i) {
            int text = counting[Laws.BLOOM];
            int heard = heeds[corner[i]];
            if (text == NONE) {
                return (99 - heard) / 10;
            }
            laws.name(wit[i], dust[i], heard, Integer.bitCount(sayingsIn(corner[i])));
            return held(laws.value(text));
        }

        private int othersBeside(int i, int above) {
            int many = 0;
            for (int j = 0; j < size; j++) {
                if (j != i && corner[j] == corner[i] && Kinds.isUnder(kind[j], above)) {
                    many++;
                }
            }
            return many;
        }

        int draws(int i) {
            int plain = wit[i] / 10 - dust[i] / 10;
            switch (kind[i]) {
                case Kinds.QUIP: return plain + 1;
                case Kinds.SALLY: return 2 * (plain + 1);
                case Kinds.SERMON: return plain - 2;
                case Kinds.DRONE: return plain - 2 - othersBeside(i, Kinds.SERMON);
                case Kinds.REMARK: return 0;
                default: return plain;
            }
        }

        int worth(int i) {
            return Kinds.worth(kind[i], wit[i], dust[i]);
        }

        int sayingsIn(int place) {
            int set = 0;
            for (int i = 0; i < size; i++) {
                if (corner[i] == place) {
                    set |= 1 << i;
                }
            }
            return set;
        }

        int worthIn(int place) {
            int sum = 0;
            for (int i = 0; i < size; i++) {
                if (corner[i] == place) {
                    sum += worth(i);
                }
            }
            return sum;
        }

        int drawnIn(int place) {
            int sum = 0;
            for (int i = 0; i < size; i++) {
                if (corner[i] == place && !isBuried(i)) {
                    sum += draws(i);
                }
            }
            return sum;
        }

        int buried() {
            int set = 0;
            for (int i = 0; i < size; i++) {
                if (isBuried(i)) {
                    set |= 1 << i;
                }
            }
            return set;
        }

        int cornersWithSayings() {
            int set = 0;
            for (int i = 0; i < size; i++) {
                set |= 1 << corner[i];
            }
            return set;
        }

        int deafest() {
            int best = 0;
            for (int i = 1; i < CORNERS; i++) {
                if (heeds[i] < heeds[best]) {
                    best = i;
                }
            }
            return best;
        }

        int allDust() {
            int sum = 0;
            for (int i = 0; i < size; i++) {
                sum += dust[i];
            }
            return sum;
        }

        int allHeed() {
            int sum = 0;
            for (int i = 0; i < CORNERS; i++) {
                sum += heeds[i];
            }
            return sum;
        }

        int feeGiven() {
            int text = counting[Laws.FEE];
            if (text == NONE) {
                return dusted;
            }
            laws.name(dusted, found, 0, 0);
            return laws.value(text);
        }

        int fineGiven(int i) {
            int text = counting[Laws.FINE];
            if (text == NONE) {
                return dust[i];
            }
            laws.name(wit[i], dust[i], 0, 0);
            return laws.value(text);
        }
    }

    /** The texts, each as a row of steps: leaves first, the sign behind what it joins. */
    private static final class Laws {
        static final int MOST_TEXTS = 14;
        static final int KEYS = 3;
        static final int BLOOM = 0, FEE = 1, FINE = 2;
        /** Steps below this are numbers, those from it on names, those below 0 signs. */
        static final int FIRST_NAME = 10000;
        static final int MOST_NAMES = 4;

        final int[] keys = new int[MOST_TEXTS];
        final int[] leaves = new int[MOST_TEXTS];
        final int[] lengths = new int[MOST_TEXTS];
        final int[][] steps = new int[MOST_TEXTS][Tape.MOST_BYTES];
        private final int[] names = new int[MOST_NAMES];
        private final int[] stack = new int[Tape.MOST_BYTES];

        /** In the order of these letters a text's names are numbered. */
        static String namesOf(int key) {
            switch (key) {
                case BLOOM: return "wdhn";
                case FEE: return "df";
                default: return "wd";
            }
        }

        static String wordOf(int key) {
            switch (key) {
                case BLOOM: return "bloom";
                case FEE: return "fee";
                default: return "fine";
            }
        }

        void write(int text, Tape tape) {
            if (!isWithin(text, 0, MOST_TEXTS - 1)) {
                return;
            }
            keys[text] = tape.key;
            leaves[text] = tape.leaves;
            lengths[text] = tape.written;
            System.arraycopy(tape.steps, 0, steps[text], 0, tape.written);
        }

        void name(int first, int second, int third, int fourth) {
            names[0] = first;
            names[1] = second;
            names[2] = third;
            names[3] = fourth;
        }

        int value(int text) {
            if (!isWithin(text, 0, MOST_TEXTS - 1)) {
                return 0;
            }
            int[] row = steps[text];
            int top = 0;
            for (int i = 0; i < lengths[text] && i < row.length; i++) {
                int step = row[i];
                if (step >= 0 && top < stack.length) {
                    stack[top] = leaf(step);
                    top++;
                } else if (step == -'!' && top >= 1) {
                    stack[top - 1] = stack[top - 1] == 0 ? 1 : 0;
                } else if (top >= 2) {
                    top--;
                    stack[top - 1] = join(-step, stack[top - 1], stack[top]);
                }
            }
            return stack[0];
        }

        private int leaf(int step) {
            int name = step - FIRST_NAME;
            return name >= 0 && name < MOST_NAMES ? names[name] : step;
        }

        private static int join(int sign, int a, int b) {
            switch (sign) {
                case '|': return a != 0 || b != 0 ? 1 : 0;
                case '&': return a != 0 && b != 0 ? 1 : 0;
                case '<': return a < b ? 1 : 0;
                case '=': return a == b ? 1 : 0;
                case '>': return a > b ? 1 : 0;
                case '+': return a + b;
                case '-': return a - b;
                case '*': return a * b;
                default: return b == 0 ? 0 : a / b;
            }
        }
    }

    /** The tape, and how it is read: a word or sign is looked at, and passed if a text goes on with it. */
    private static final class Tape {
        static final int MOST_BYTES = 96;
        static final int MOST_OPEN = 8;
        static final int MOST_DIGITS = 4;
        static final int TESTS = 2, PIECES = 5;
        static final int END = 0, LETTERS = 1, DIGITS = 2, SIGN = 3, GLUED = 4;

        final int[] bytes = new int[MOST_BYTES];
        int size;
        /** What is looked at stands from start up to stop; reading fails nowhere but at start. */
        int start;
        private int stop;
        private int sort;
        int key;
        int leaves;
        int written;
        final int[] steps = new int[MOST_BYTES];

        boolean hasRoom(int more) {
            return size + more <= MOST_BYTES;
        }

        void add(int four) {
            for (int shift = 24; shift >= 0; shift -= 8) {
                if (size < MOST_BYTES) {
                    bytes[size] = four >>> shift & 255;
                    size++;
                }
            }
        }

        boolean isText() {
            stop = 0;
            sort = END;
            leaves = 0;
            written = 0;
            pass();
            return readKey() && readJoined(0, 0, 0) && sort == END;
        }

        private void pass() {
            boolean wasWord = sort == LETTERS || sort == DIGITS;
            start = stop;
            while (start < size && bytes[start] == ' ') {
                start++;
            }
            int own = sortAt(start);
            boolean isWord = own == LETTERS || own == DIGITS;
            int from = stop;
            stop = Math.min(start + 1, size);
            while (isWord && stop < size && sortAt(stop) == own) {
                stop++;
            }
            sort = wasWord && isWord && start == from ? GLUED : own;
        }

        private int sortAt(int place) {
            if (place >= size) {
                return END;
            }
            int own = bytes[place];
            if (own >= 'a' && own <= 'z') {
                return LETTERS;
            }
            return own >= '0' && own <= '9' ? DIGITS : SIGN;
        }

        private boolean isSignOf(String signs) {
            return sort == SIGN && signs.indexOf((char) bytes[start]) >= 0;
        }

        private boolean readKey() {
            for (int i = 0; i < Laws.KEYS; i++) {
                if (sort == LETTERS && isWord(Laws.wordOf(i))) {
                    key = i;
                    pass();
                    return true;
                }
            }
            return false;
        }

        private boolean isWord(String word) {
            if (stop - start != word.length()) {
                return false;
            }
            for (int i = 0; i < word.length(); i++) {
                if (bytes[start + i] != word.charAt(i)) {
                    return false;
                }
            }
            return true;
        }

        private static String signsOf(int level) {
            switch (level) {
                case 0: return "|";
                case 1: return "&";
                case TESTS: return "<=>";
                case 3: return "+-";
                default: return "*/";
            }
        }

        /** The levels are those of E, the loosest first; only a test joins no more than two. */
        private boolean readJoined(int level, int open, int nots) {
            if (level >= PIECES) {
                return readPiece(open, nots);
            }
            if (!readJoined(level + 1, open, nots)) {
                return false;
            }
            String signs = signsOf(level);
            int most = level == TESTS ? 1 : MOST_BYTES;
            for (int i = 0; i < most && isSignOf(signs); i++) {
                int sign = bytes[start];
                pass();
                if (!readJoined(level + 1, open, nots)) {
                    return false;
                }
                write(-sign);
            }
            return true;
        }

        private boolean readPiece(int open, int nots) {
            if (sort == DIGITS) {
                return readNumber();
            }
            if (sort == LETTERS) {
                return readName();
            }
            if (isSignOf("!") && nots < MOST_OPEN) {
                pass();
                boolean isRead = readPiece(open, nots + 1);
                write(-'!');
                return isRead;
            }
            if (isSignOf("(") && open < MOST_OPEN) {
                pass();
                return readJoined(0, open + 1, nots) && readClosing();
            }
            return false;
        }

        private boolean readClosing() {
            if (!isSignOf(")")) {
                return false;
            }
            pass();
            return true;
        }

        private boolean readNumber() {
            if (stop - start > MOST_DIGITS) {
                return false;
            }
            int number = 0;
            for (int i = start; i < stop; i++) {
                number = number * 10 + bytes[i] - '0';
            }
            writeLeaf(number);
            return true;
        }

        private boolean readName() {
            int name = Laws.namesOf(key).indexOf((char) bytes[start]);
            if (stop - start != 1 || name < 0) {
                return false;
            }
            writeLeaf(Laws.FIRST_NAME + name);
            return true;
        }

        private void writeLeaf(int step) {
            write(step);
            leaves++;
            pass();
        }

        private void write(int step) {
            if (written < MOST_BYTES) {
                steps[written] = step;
                written++;
            }
        }
    }

    /** A row of places; NONE stands in a place that is no number, which no number there can be. */
    private static final class Sheet {
        static final int MOST_PLACES = 24;
        static final int MISSING = -1, SHORTS = 0, FLOATS = 1;

        final int[] places = new int[MOST_PLACES];
        int sort = MISSING;
        int size;

        void begin(int ofSort, int n) {
            sort = ofSort;
            size = n;
            for (int i = 0; i < MOST_PLACES; i++) {
                places[i] = 0;
            }
        }

        void become(Sheet other) {
            sort = other.sort;
            size = other.size;
            System.arraycopy(other.places, 0, places, 0, MOST_PLACES);
        }

        boolean isMissing() {
            return sort == MISSING;
        }

        boolean has(int place) {
            return isWithin(place, 0, size - 1);
        }

        boolean hasRun(int place, int many) {
            return place >= 0 && many >= 0 && place <= size - many;
        }

        boolean isNumber(int place) {
            return places[place] != NONE;
        }
    }

    /** What a slot holds, as it was when it was laid there. */
    private static final class Slot {
        static final int EMPTY = 0, SAYING = 1, SHEET = 2, NUMBER = 3;

        final Sheet row = new Sheet();
        int thing = EMPTY;
        int number;
        int kind;
        int wit;
        int dust;

        void holdSaying(int ofKind, int withWit, int withDust) {
            kind = ofKind;
            wit = withWit;
            dust = withDust;
        }
    }
}
