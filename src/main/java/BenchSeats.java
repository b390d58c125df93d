/**
 * A bench on which one may sit down only between two or between none.
 * Sets of places and of sitters are told by bits: bit k stands for number k.
 */
public final class BenchSeats {
    public static final int BAD = -1000000001, NO = -1000000002, FULL = -1000000003, NONE = -1000000005,
        NOTHING = -1000000011, KIND = -1000000012, INDEX = -1000000013, SIZE = -1000000014;

    private static final int SITTER = 0, WIDE = 1, FRIEND = 2, FAT = 3, TWIN = 4, SHY = 5;
    /** For each kind the set of kinds that are of it: itself and those under it. */
    private static final int[] KINDS_OF = {0b111111, 0b001010, 0b010100, 0b001000, 0b010000, 0b100000};
    private static final int LAST_KIND = 5;

    private static final int PRICE = 0, RULE = 1, COME = 2, RISE = 3;
    private static final int[] RULE_TOPS = {99, 2, 100, 100};
    private static final int BY_LOT = 0, BY_LEAST = 1;

    private static final int FARE = 0, FEE = 1, FINE = 2;
    private static final int MOST_PLACES = 12, MOST_SITTERS = 12, MOST_TEXTS = 14, MOST_BYTES = 96;
    private static final int MOST_WAITING = 60, LAST_MINUTE = 9999, TOP_CUSHION = 99, TOP_PENNIES = 9999;
    private static final int SHEETS = 4, SLOTS = 5, MOST_MARKS = 24;
    private static final int MISSING = -1, SHORTS = 0, FLOATS = 1, TOP_FLOAT = 99999;

    private final Inn now = new Inn();
    private final Inn image = new Inn();
    /** What will be is played on this one, so that nothing changes in the inn itself. */
    private final Inn trial = new Inn();
    private boolean isKept;
    private final Outlook outlook = new Outlook();
    private final Tape tape = new Tape();
    private final Sheet[] sheets = new Sheet[SHEETS];
    private final Slot[] slots = new Slot[SLOTS];
    private final int[] waiting = new int[MOST_WAITING];
    private int waits;

    public BenchSeats() {
        for (int i = 0; i < SHEETS; i++) {
            sheets[i] = new Sheet();
        }
        for (int i = 0; i < SLOTS; i++) {
            slots[i] = new Slot();
        }
    }

    // ---- the bench, sitters

    public int bench(int n, int ring, int wall) {
        if (!isWithin(n, 1, MOST_PLACES) || !isWithin(ring, 0, 1) || !isWithin(wall, 0, 1)) {
            return BAD;
        }
        return now.setUp(n, ring, wall);
    }

    public int sitter(int kind) {
        return isKind(kind) ? now.welcome(kind) : BAD;
    }

    public int told(int sitter, int what) {
        if (!isSitter(sitter)) {
            return BAD;
        }
        Sitter one = now.sitters[sitter];
        switch (what) {
            case 0: return one.kind;
            case 1: return one.place;
            case 2: return one.pennies;
            case 3: return one.satDown;
            case 4: return now.placesOf(one);
            case 5: return now.placesFor(one);
            case 6: return one.worth();
            default: return BAD;
        }
    }

    public int as(int sitter, int kind) {
        if (!isSitter(sitter) || !isKind(kind)) {
            return BAD;
        }
        Sitter one = now.sitters[sitter];
        return one.isOf(kind) ? one.satDown : KIND;
    }

    public int turns(int sitter, int kind) {
        if (!isSitter(sitter) || !isKind(kind)) {
            return BAD;
        }
        Sitter one = now.sitters[sitter];
        if (one.sitsNow()) {
            return NO;
        }
        int old = one.kind;
        one.kind = kind;
        return old;
    }

    public int sits(int sitter, int place) {
        if (!isSitter(sitter) || !isPlace(place)) {
            return BAD;
        }
        Sitter one = now.sitters[sitter];
        return has(now.placesFor(one), place) ? now.seat(one, place) : NO;
    }

    public int rises(int sitter) {
        if (!isSitter(sitter)) {
            return BAD;
        }
        Sitter one = now.sitters[sitter];
        if (!one.sitsNow()) {
            return NO;
        }
        int old = one.place;
        one.place = -1;
        return old;
    }

    public int who(int place) {
        if (!isPlace(place)) {
            return BAD;
        }
        for (int i = 0; i < now.sitterCount; i++) {
            if (has(now.placesOf(now.sitters[i]), place)) {
                return i;
            }
        }
        return NONE;
    }

    public int cushion(int place, int v) {
        if (!isPlace(place) || !isWithin(v, 0, TOP_CUSHION)) {
            return BAD;
        }
        int old = now.cushions[place];
        now.cushions[place] = v;
        return old;
    }

    public int rule(int what, int v) {
        if (!isWithin(what, PRICE, RISE) || !isWithin(v, 0, RULE_TOPS[what])) {
            return BAD;
        }
        int old = now.rules[what];
        now.rules[what] = v;
        return old;
    }

    public int deal(int n) {
        if (!isWithin(n, 1, MOST_SITTERS)) {
            return BAD;
        }
        int came = Math.min(n, MOST_SITTERS - now.sitterCount);
        for (int i = 0; i < came; i++) {
            now.welcome(now.draw() % (LAST_KIND + 1));
        }
        return came;
    }

    public int seed(int v) {
        int old = now.lot;
        now.lot = v;
        return old;
    }

    // ---- minutes

    public int minutes(int n) {
        if (!isWithin(n, 1, 100)) {
            return BAD;
        }
        return now.pass(Math.min(n, LAST_MINUTE - now.minute));
    }

    public int inn(int what) {
        switch (what) {
            case 0: return now.taken();
            case 1: return now.till;
            case 2: return now.seatedCount();
            case 3: return now.standing();
            default: return BAD;
        }
    }

    // ---- how it can go on, what will be

    public int goes(int what) {
        if (!isWithin(what, Outlook.MOST, Outlook.WAYS)) {
            return BAD;
        }
        return outlook.foresee(now.bench, now.taken(), what);
    }

    public int game(int what) {
        if (!isWithin(what, 0, 1)) {
            return BAD;
        }
        int taken = now.taken();
        int wins = outlook.foresee(now.bench, taken, Outlook.GAME);
        return what == 0 ? wins : outlook.winning(now.bench, taken);
    }

    public int worthy(int what) {
        if (!isWithin(what, 0, 1)) {
            return BAD;
        }
        int taken = now.taken();
        if (taken == now.bench.all) {
            return NONE;
        }
        outlook.weigh(now, taken);
        return what == 0 ? outlook.bestPlace : outlook.bestGain;
    }

    public int behind(int n, int what) {
        if (!isWithin(n, 0, 100) || !isWithin(what, 0, 2 + now.sitterCount)) {
            return BAD;
        }
        trial.become(now);
        trial.pass(n);
        switch (what) {
            case 0: return trial.taken();
            case 1: return trial.till;
            case 2: return trial.seatedCount();
            default: return trial.sitters[what - 3].place;
        }
    }

    public int fullUp() {
        trial.become(now);
        for (int n = 0; n <= 200; n++) {
            if (trial.isShut()) {
                return n;
            }
            trial.passOne();
        }
        return NONE;
    }

    public int rose(int n, int what) {
        if (!isWithin(n, 1, 60) || !isWithin(what, 0, 1)) {
            return BAD;
        }
        int best = NONE;
        int most = NONE;
        for (int i = 0; i < now.sitterCount; i++) {
            if (now.sitters[i].sitsNow()) {
                trial.become(now);
                trial.sitters[i].place = -1;
                trial.pass(n);
                if (best == NONE || trial.till > most) {
                    best = i;
                    most = trial.till;
                }
            }
        }
        return what == 0 ? best : most;
    }

    public int book(int sheet) {
        int refusal = refusalOf(sheet);
        if (refusal != 0) {
            return refusal;
        }
        Sheet row = sheets[sheet];
        int taken = now.taken();
        int seated = 0;
        for (int i = 0; i < row.size; i++) {
            int place = row.marks[i];
            if (place != NONE) {
                if (!isPlace(place) || !has(now.bench.ordinary(taken), place)) {
                    return seated;
                }
                taken |= 1 << place;
                seated++;
            }
        }
        return seated;
    }

    public int fee() {
        Text law = now.lawOf(FEE);
        return law == null ? now.till : law.value(now.till, now.minute, 0);
    }

    public int fine(int sitter) {
        if (!isSitter(sitter)) {
            return BAD;
        }
        Sitter one = now.sitters[sitter];
        Text law = now.lawOf(FINE);
        return law == null ? one.satDown : law.value(one.pennies, one.satDown, 0);
    }

    // ---- texts

    public int feed(int a, int b, int c) {
        if (tape.length + 12 > MOST_BYTES) {
            return FULL;
        }
        tape.append(a);
        tape.append(b);
        tape.append(c);
        return tape.length;
    }

    public int trim(int n) {
        if (!isWithin(n, 0, tape.length)) {
            return BAD;
        }
        tape.length = n;
        return n;
    }

    public int text() {
        int fault = tape.parse();
        tape.length = 0;
        return fault < 0 ? now.enact(tape.lawRead()) : -100 - fault;
    }

    public int textTold(int text, int what) {
        if (!isWithin(text, 0, now.textCount - 1) || !isWithin(what, 0, 1)) {
            return BAD;
        }
        Text law = now.texts[text];
        return what == 0 ? law.key : law.things;
    }

    public int why(int key) {
        return isWithin(key, FARE, FINE) ? now.counting[key] : BAD;
    }

    // ---- sheets, slots

    public int sheet(int sheet, int sort, int n) {
        if (!isSheet(sheet) || !isWithin(sort, MISSING, FLOATS)) {
            return BAD;
        }
        if (sort == MISSING) {
            sheets[sheet].clear(MISSING, 0);
            return 0;
        }
        if (n > MOST_MARKS) {
            return BAD;
        }
        if (n < 0) {
            return SIZE;
        }
        sheets[sheet].clear(sort, n);
        return n;
    }

    public int mark(int sheet, int place, int v) {
        int refusal = refusalOf(sheet);
        if (refusal != 0) {
            return refusal;
        }
        Sheet row = sheets[sheet];
        if (!row.hasPlace(place)) {
            return INDEX;
        }
        if (row.sort == SHORTS) {
            if (v == NONE) {
                return KIND;
            }
            row.marks[place] = (short) v;
            return 1;
        }
        if (v != NONE && !isWithin(v, -TOP_FLOAT, TOP_FLOAT)) {
            return BAD;
        }
        row.marks[place] = v;
        return 1;
    }

    public int pour(int sheet) {
        int refusal = refusalOf(sheet);
        if (refusal != 0) {
            return refusal;
        }
        Sheet row = sheets[sheet];
        int changed = 0;
        for (int p = 0; p < now.bench.size && p < row.size; p++) {
            if (row.marks[p] != NONE) {
                int softness = held(row.marks[p], 0, TOP_CUSHION);
                if (softness != now.cushions[p]) {
                    now.cushions[p] = softness;
                    changed++;
                }
            }
        }
        return changed;
    }

    public int reads(int sheet) {
        int refusal = refusalOf(sheet);
        if (refusal != 0) {
            return refusal;
        }
        Sheet row = sheets[sheet];
        for (int i = 0; i < row.size; i++) {
            if (row.marks[i] != NONE && (!isSitter(i) || row.marks[i] != now.sitters[i].pennies)) {
                return i;
            }
        }
        return NONE;
    }

    public int copy(int from, int place, int to, int at, int many) {
        if (!isSheet(from) || !isSheet(to)) {
            return BAD;
        }
        Sheet source = sheets[from];
        Sheet target = sheets[to];
        if (source.sort == MISSING || target.sort == MISSING) {
            return NOTHING;
        }
        if (source.sort != target.sort) {
            return KIND;
        }
        if (!source.hasPlaces(place, many) || !target.hasPlaces(at, many)) {
            return INDEX;
        }
        System.arraycopy(source.marks, place, target.marks, at, many);
        return many;
    }

    public int lay(int slot, int thing, int k) {
        if (!isSlot(slot) || !isWithin(thing, Slot.EMPTY, Slot.NUMBER)) {
            return BAD;
        }
        if (thing == Slot.SITTER_COPY && !isSitter(k)) {
            return BAD;
        }
        if (thing == Slot.SHEET_COPY && refusalOf(k) != 0) {
            return refusalOf(k);
        }
        Slot held = slots[slot];
        int old = held.thing;
        held.thing = thing;
        if (thing == Slot.SITTER_COPY) {
            held.sitter.become(now.sitters[k]);
        } else if (thing == Slot.SHEET_COPY) {
            held.sheet.become(sheets[k]);
        } else {
            held.number = k;
        }
        return old;
    }

    public int ask(int slot, int kind) {
        if (!isSlot(slot) || !isKind(kind)) {
            return BAD;
        }
        Slot held = slots[slot];
        if (held.thing == Slot.EMPTY) {
            return NOTHING;
        }
        return held.thing == Slot.SITTER_COPY && held.sitter.isOf(kind) ? held.sitter.worth() : KIND;
    }

    public int item(int slot, int place) {
        if (!isSlot(slot)) {
            return BAD;
        }
        Slot held = slots[slot];
        if (held.thing == Slot.EMPTY) {
            return NOTHING;
        }
        if (held.thing != Slot.SHEET_COPY) {
            return KIND;
        }
        if (!held.sheet.hasPlace(place)) {
            return INDEX;
        }
        int mark = held.sheet.marks[place];
        return mark == NONE ? KIND : mark;
    }

    public int rest(int slot, int n) {
        if (!isSlot(slot)) {
            return BAD;
        }
        Slot held = slots[slot];
        if (held.thing == Slot.EMPTY) {
            return NOTHING;
        }
        if (held.thing != Slot.NUMBER) {
            return KIND;
        }
        return n == 0 ? NO : held.number % n;
    }

    // ---- rows, images

    public int tell(int v) {
        if (waits >= MOST_WAITING) {
            return FULL;
        }
        waiting[waits] = v;
        waits++;
        return waits;
    }

    public int check(int n) {
        int toldCount = waits;
        waits = 0;
        if (!isWithin(n, 1, 30)) {
            return BAD;
        }
        return isKept ? compare(toldCount, Math.min(n, LAST_MINUTE - image.minute)) : NO;
    }

    public int keep() {
        image.become(now);
        isKept = true;
        return image.sitterCount;
    }

    public int back() {
        if (!isKept) {
            return NO;
        }
        now.become(image);
        return now.sitterCount;
    }

    public int count(int what) {
        switch (what) {
            case 0: return now.sitterCount;
            case 1: return now.bench.size;
            case 2: return now.bench.ring;
            case 3: return now.bench.wall;
            case 4: return now.minute;
            case 5: return now.rules[PRICE];
            case 6: return now.rules[RULE];
            case 7: return now.rules[COME];
            case 8: return now.rules[RISE];
            case 9: return now.textCount;
            case 10: return waits;
            case 11: return tape.length;
            case 12: return now.lot;
            default: return BAD;
        }
    }

    /** Each minute told is two numbers: the set of places taken, and the till. */
    private int compare(int toldCount, int lasting) {
        trial.become(image);
        int right = 0;
        for (int i = 0; i < lasting; i++) {
            trial.passOne();
            if (right >= toldCount || waiting[right] != trial.taken()) {
                return 1 + right;
            }
            right++;
            if (right >= toldCount || waiting[right] != trial.till) {
                return 1 + right;
            }
            right++;
        }
        return right < toldCount ? 1 + right : 0;
    }

    private int refusalOf(int sheet) {
        if (!isSheet(sheet)) {
            return BAD;
        }
        return sheets[sheet].sort == MISSING ? NOTHING : 0;
    }

    private boolean isSitter(int sitter) {
        return isWithin(sitter, 0, now.sitterCount - 1);
    }

    private boolean isPlace(int place) {
        return isWithin(place, 0, now.bench.size - 1);
    }

    private static boolean isKind(int kind) {
        return isWithin(kind, SITTER, LAST_KIND);
    }

    private static boolean isSheet(int sheet) {
        return isWithin(sheet, 0, SHEETS - 1);
    }

    private static boolean isSlot(int slot) {
        return isWithin(slot, 0, SLOTS - 1);
    }

    private static boolean isWithin(int v, int least, int most) {
        return least <= v && v <= most;
    }

    private static int held(int v, int least, int most) {
        return v < least ? least : v > most ? most : v;
    }

    private static boolean has(int set, int place) {
        return (set >> place & 1) == 1;
    }

    /** Who is beside whom. */
    private static final class Bench {
        int size = 9;
        int ring;
        int wall;
        /** The set of all places. */
        int all = (1 << 9) - 1;

        void setUp(int newSize, int newRing, int newWall) {
            size = newSize;
            ring = newRing;
            wall = newWall;
            all = (1 << newSize) - 1;
        }

        void become(Bench other) {
            setUp(other.size, other.ring, other.wall);
        }

        /** The places whose place ahead is of a set; the end of a row counts as told. */
        int withAhead(int set, int end) {
            int first = ring == 1 ? set >> (size - 1) : end;
            return (set << 1 | first) & all;
        }

        /** The places whose place behind is of a set; the end of a row counts as told. */
        int withBehind(int set, int end) {
            int last = ring == 1 ? set & 1 : end;
            return set >> 1 | last << (size - 1);
        }

        /** Where an ordinary one may sit down beside those who have taken places. */
        int ordinary(int taken) {
            return all & ~taken & ~(withAhead(taken, wall) ^ withBehind(taken, wall));
        }

        /** Where one of two places may sit down; a fat one wants nobody beside it. */
        int broad(int taken, boolean fat) {
            // In a ring of one the second place would be the first again.
            if (size < 2) {
                return 0;
            }
            // The wall itself is no place to sit, whatever it counts as beside one.
            int room = all & ~taken & ~withBehind(taken, 1);
            int ahead = withAhead(taken, wall);
            int behindBoth = withBehind(withBehind(taken, wall), wall);
            return room & ~(fat ? ahead | behindBoth : ahead ^ behindBoth);
        }
    }

    private static final class Sitter {
        int kind;
        int place = -1;
        int pennies;
        int satDown;

        void begin(int newKind) {
            kind = newKind;
            place = -1;
            pennies = 0;
            satDown = 0;
        }

        void become(Sitter other) {
            kind = other.kind;
            place = other.place;
            pennies = other.pennies;
            satDown = other.satDown;
        }

        boolean sitsNow() {
            return place >= 0;
        }

        boolean isOf(int wanted) {
            return (KINDS_OF[wanted] >> kind & 1) == 1;
        }

        int worth() {
            switch (kind) {
                case WIDE: return satDown + 6;
                case FAT: return 2 * (satDown + 6);
                case FRIEND: return 99 - satDown;
                case TWIN: return 99 - satDown - 4;
                case SHY: return 3;
                default: return satDown;
            }
        }

        /** What it pays where an ordinary one would pay the fare. */
        int share(int fare) {
            switch (kind) {
                case WIDE: return 2 * fare;
                case FAT: return 2 * fare + 1;
                case FRIEND: return fare - 2;
                case TWIN: return (fare - 2) / 2;
                default: return fare;
            }
        }
    }

    /** All that an image keeps. */
    private static final class Inn {
        final Bench bench = new Bench();
        final Sitter[] sitters = new Sitter[MOST_SITTERS];
        int sitterCount;
        final int[] cushions = new int[MOST_PLACES];
        final int[] rules = {1, BY_LOT, 50, 10};
        int till;
        int minute;
        int lot = 1;
        final Text[] texts = new Text[MOST_TEXTS];
        int textCount;
        /** For each key the text that counts. */
        final int[] counting = {NONE, NONE, NONE};

        Inn() {
            for (int i = 0; i < MOST_SITTERS; i++) {
                sitters[i] = new Sitter();
            }
        }

        void become(Inn other) {
            bench.become(other.bench);
            sitterCount = other.sitterCount;
            for (int i = 0; i < sitterCount; i++) {
                sitters[i].become(other.sitters[i]);
            }
            System.arraycopy(other.cushions, 0, cushions, 0, MOST_PLACES);
            System.arraycopy(other.rules, 0, rules, 0, rules.length);
            till = other.till;
            minute = other.minute;
            lot = other.lot;
            textCount = other.textCount;
            for (int i = 0; i < textCount; i++) {
                texts[i] = other.texts[i];
            }
            System.arraycopy(other.counting, 0, counting, 0, counting.length);
        }

        int setUp(int size, int ring, int wall) {
            int sat = seatedCount();
            bench.setUp(size, ring, wall);
            for (int i = 0; i < sitterCount; i++) {
                sitters[i].place = -1;
            }
            for (int p = 0; p < MOST_PLACES; p++) {
                cushions[p] = 0;
            }
            return sat;
        }

        int welcome(int kind) {
            if (sitterCount >= MOST_SITTERS) {
                return FULL;
            }
            sitters[sitterCount].begin(kind);
            sitterCount++;
            return sitterCount - 1;
        }

        int placesOf(Sitter one) {
            if (!one.sitsNow()) {
                return 0;
            }
            int own = 1 << one.place;
            if (!one.isOf(WIDE)) {
                return own;
            }
            int next = one.place + 1 < bench.size ? one.place + 1 : 0;
            return own | 1 << next;
        }

        int taken() {
            int set = 0;
            for (int i = 0; i < sitterCount; i++) {
                set |= placesOf(sitters[i]);
            }
            return set;
        }

        int takenByFriends() {
            int set = 0;
            for (int i = 0; i < sitterCount; i++) {
                if (sitters[i].isOf(FRIEND)) {
                    set |= placesOf(sitters[i]);
                }
            }
            return set;
        }

        int seatedCount() {
            return sitterCount - Integer.bitCount(standing());
        }

        int standing() {
            int set = 0;
            for (int i = 0; i < sitterCount; i++) {
                if (!sitters[i].sitsNow()) {
                    set |= 1 << i;
                }
            }
            return set;
        }

        int placesFor(Sitter one) {
            if (one.sitsNow()) {
                return 0;
            }
            return placesForKind(one.kind, taken(), one.isOf(FRIEND) ? takenByFriends() : 0);
        }

        int placesForKind(int kind, int taken, int friends) {
            if (kind == WIDE || kind == FAT) {
                return bench.broad(taken, kind == FAT);
            }
            int free = bench.all & ~taken;
            int besideOne = bench.withAhead(taken, bench.wall) | bench.withBehind(taken, bench.wall);
            if (kind == SHY) {
                return free & ~besideOne;
            }
            int set = bench.ordinary(taken);
            if (kind == FRIEND || kind == TWIN) {
                set |= free & (bench.withAhead(friends, 0) | bench.withBehind(friends, 0));
            }
            return kind == TWIN ? set | free & besideOne : set;
        }

        /** Whether nobody who stands may sit anywhere. */
        boolean isShut() {
            int taken = taken();
            int friends = takenByFriends();
            for (int i = 0; i < sitterCount; i++) {
                if (!sitters[i].sitsNow() && placesForKind(sitters[i].kind, taken, friends) != 0) {
                    return false;
                }
            }
            return true;
        }

        /** Seats one where it may sit: what it pays. */
        int seat(Sitter one, int place) {
            int pay = one.share(fare(place, one.satDown));
            one.place = place;
            one.satDown++;
            one.pennies = held(one.pennies - pay, -TOP_PENNIES, TOP_PENNIES);
            till += pay;
            return pay;
        }

        int fare(int place, int satDown) {
            int price = rules[PRICE];
            int softness = cushions[place];
            Text law = lawOf(FARE);
            return held(law == null ? price + softness : law.value(price, softness, satDown), -999, 999);
        }

        /** The text that counts for a key; null without one. */
        Text lawOf(int key) {
            int number = counting[key];
            return number >= 0 && number < textCount ? texts[number] : null;
        }

        int enact(Text law) {
            if (textCount >= MOST_TEXTS) {
                return FULL;
            }
            texts[textCount] = law;
            counting[law.key] = textCount;
            textCount++;
            return textCount - 1;
        }

        int draw() {
            lot = lot * 1103515245 + 12345;
            return lot >>> 8;
        }

        /** So many minutes go by: how many sat down in them. */
        int pass(int lasting) {
            int sat = 0;
            for (int i = 0; i < lasting; i++) {
                if (passOne()) {
                    sat++;
                }
            }
            return sat;
        }

        boolean passOne() {
            boolean sat = draw() % 100 < rules[COME] && oneComes();
            if (draw() % 100 < rules[RISE]) {
                oneRises();
            }
            minute++;
            return sat;
        }

        boolean oneComes() {
            for (int i = 0; i < sitterCount; i++) {
                if (!sitters[i].sitsNow()) {
                    int place = choose(placesFor(sitters[i]));
                    if (place == NONE) {
                        return false;
                    }
                    seat(sitters[i], place);
                    return true;
                }
            }
            return false;
        }

        /** The place of a set that the rule chooses; NONE of an empty one, without a draw. */
        int choose(int set) {
            int many = Integer.bitCount(set);
            if (many == 0) {
                return NONE;
            }
            if (rules[RULE] == BY_LOT) {
                return nthOf(set, draw() % many);
            }
            int best = Integer.numberOfTrailingZeros(set);
            if (rules[RULE] == BY_LEAST) {
                return best;
            }
            for (int p = best + 1; p < bench.size; p++) {
                if (has(set, p) && cushions[p] > cushions[best]) {
                    best = p;
                }
            }
            return best;
        }

        int nthOf(int set, int n) {
            int ahead = 0;
            for (int p = 0; p < bench.size; p++) {
                if (has(set, p)) {
                    if (ahead == n) {
                        return p;
                    }
                    ahead++;
                }
            }
            return NONE;
        }

        void oneRises() {
            // Without sitters nothing is done at all, so that not even a draw is used up.
            if (sitterCount > 0) {
                sitters[draw() % sitterCount].place = -1;
            }
        }
    }

    /** How ordinary ones can go on, worked out over all sets of places that hold those taken now. */
    private static final class Outlook {
        static final int MOST = 0, FEWEST = 1, WAYS = 2, GAME = 3;
        private static final int MODULUS = 1000000007;
        private static final int EXTRA = 50;
        private static final int UNREACHED = -1;

        /** By the set of places taken: what was asked, from there on. */
        private final int[] from = new int[1 << MOST_PLACES];
        private final int[] bestWith = new int[MOST_PLACES];
        int bestPlace;
        int bestGain;

        int foresee(Bench bench, int taken, int what) {
            int free = bench.all & ~taken;
            int more = free;
            // Larger sets first: what follows a set stands already when the set comes.
            for (int left = 1 << Integer.bitCount(free); left > 0; left--) {
                int set = taken | more;
                from[set] = joined(set, bench.ordinary(set), what);
                more = (more - 1) & free;
            }
            return from[taken];
        }

        /** What is asked of a set of places by what is known of those that come right behind it. */
        private int joined(int set, int open, int what) {
            if (open == 0) {
                return what == WAYS ? 1 : 0;
            }
            int most = 0;
            // Nothing that is told of a set reaches the modulus.
            int least = MODULUS;
            long sum = 0;
            int untried = open;
            for (int left = Integer.bitCount(open); left > 0; left--) {
                int next = from[set | untried & -untried];
                untried &= untried - 1;
                most = next > most ? next : most;
                least = next < least ? next : least;
                sum += next;
            }
            switch (what) {
                case MOST: return most + 1;
                case FEWEST: return least + 1;
                case WAYS: return (int) (sum % MODULUS);
                default: return least == 0 ? 1 : 0;
            }
        }

        /** Where to sit to win, right behind foresee of the game. */
        int winning(Bench bench, int taken) {
            int open = bench.ordinary(taken);
            int set = 0;
            for (int p = 0; p < bench.size; p++) {
                if (has(open, p) && from[taken | 1 << p] == 0) {
                    set |= 1 << p;
                }
            }
            return set;
        }

        /**
         * Finds the free place at which a softer cushion makes the greatest gain most. The greatest gain is got
         * with some place or other, and more is got there: no place that it leaves out can be better.
         */
        void weigh(Inn inn, int taken) {
            gatherGains(inn, taken);
            bestPlace = Integer.numberOfTrailingZeros(~taken);
            for (int p = bestPlace + 1; p < inn.bench.size; p++) {
                if (!has(taken, p) && bestWith[p] > bestWith[bestPlace]) {
                    bestPlace = p;
                }
            }
            bestGain = bestWith[bestPlace] == UNREACHED ? 0 : bestWith[bestPlace] + EXTRA;
        }

        /** For each place the greatest gain with which it is taken. */
        private void gatherGains(Inn inn, int taken) {
            Bench bench = inn.bench;
            for (int p = 0; p < MOST_PLACES; p++) {
                bestWith[p] = UNREACHED;
            }
            for (int set = taken; set <= bench.all; set++) {
                from[set] = UNREACHED;
            }
            from[taken] = 0;
            for (int set = taken; set <= bench.all; set++) {
                if (from[set] != UNREACHED) {
                    int open = bench.ordinary(set);
                    if (open == 0) {
                        noteGain(set & ~taken, from[set]);
                    } else {
                        spreadGain(inn, set, open);
                    }
                }
            }
        }

        private void noteGain(int sat, int gain) {
            for (int p = 0; p < MOST_PLACES; p++) {
                if (has(sat, p) && gain > bestWith[p]) {
                    bestWith[p] = gain;
                }
            }
        }

        private void spreadGain(Inn inn, int set, int open) {
            for (int p = 0; p < inn.bench.size; p++) {
                if (has(open, p)) {
                    from[set | 1 << p] = from[set] + inn.rules[PRICE] + inn.cushions[p];
                }
            }
        }
    }

    /** A law, its signs standing behind what they join. */
    private static final class Text {
        static final int FIRST_NAME = -1, LAST_NAME = -3;

        final int key;
        /** How many numbers and names it has. */
        final int things;
        /** Numbers as they are; names -1 .. -3; signs as their bytes, below 0. */
        private final int[] code;
        private final int[] stack;

        Text(int key, int things, int[] code) {
            this.key = key;
            this.things = things;
            this.code = code;
            // One place more, so that even a sign with nothing ahead of it finds one.
            this.stack = new int[things + 1];
        }

        int value(int first, int second, int third) {
            int top = 0;
            for (int i = 0; i < code.length; i++) {
                int step = code[i];
                if (step >= LAST_NAME) {
                    top++;
                    stack[top] = step >= 0 ? step : step == FIRST_NAME ? first : step == LAST_NAME ? third : second;
                } else if (step == -'!') {
                    stack[top] = stack[top] == 0 ? 1 : 0;
                } else if (top > 0) {
                    top--;
                    stack[top] = join(-step, stack[top], stack[top + 1]);
                }
            }
            return stack[top];
        }

        private static int join(int sign, int a, int b) {
            switch (sign) {
                case '|': return a != 0 || b != 0 ? 1 : 0;
                case '&': return a != 0 && b != 0 ? 1 : 0;
                case '<': return a < b ? 1 : 0;
                case '=': return a == b ? 1 : 0;
                case '>': return a > b ? 1 : 0;
                case '+': return a + b;
                case '-': return a - b;
                case '*': return a * b;
                case '/': return b == 0 ? 0 : a / b;
                default: return 0;
            }
        }
    }

    /** The tape, and the reader of texts from it: pieces are written at once, signs when what they bind stands. */
    private static final class Tape {
        private static final int END = 0, DIGITS = 1, LETTERS = 2, SIGN = 3, GLUED = 4;
        private static final int MOST_OPEN = 8, MOST_DIGITS = 4, COMPARING = 3;

        final int[] bytes = new int[MOST_BYTES];
        int length;
        /** The word or sign read last. */
        private int sort;
        private int start;
        private int end;
        private int key;
        private boolean wantsPiece;
        private final int[] code = new int[MOST_BYTES];
        private int written;
        private int things;
        /** Signs that wait for what they bind. */
        private final int[] signs = new int[MOST_BYTES];
        private int pending;
        private int open;
        private int nots;

        void append(int four) {
            for (int shift = 24; shift >= 0 && length < MOST_BYTES; shift -= 8) {
                bytes[length] = four >> shift & 255;
                length++;
            }
        }

        /** The text that parse has found. */
        Text lawRead() {
            int[] own = new int[written];
            System.arraycopy(code, 0, own, 0, written);
            return new Text(key, things, own);
        }

        /** The place of the fault; -1 if the tape is a text. */
        int parse() {
            begin();
            advance();
            key = keyHere();
            if (key < 0) {
                return start;
            }
            for (int i = 0; i <= MOST_BYTES; i++) {
                advance();
                if (sort == END) {
                    break;
                }
                if (!(wantsPiece ? takesPiece() : takesSign())) {
                    return start;
                }
            }
            if (wantsPiece || open > 0) {
                return length;
            }
            settle(0);
            return -1;
        }

        private void begin() {
            sort = END;
            start = 0;
            end = 0;
            wantsPiece = true;
            written = 0;
            things = 0;
            pending = 0;
            open = 0;
            nots = 0;
        }

        private void advance() {
            boolean behindWord = sort == DIGITS || sort == LETTERS;
            start = end;
            while (start < length && bytes[start] == ' ') {
                start++;
            }
            boolean isGlued = behindWord && start == end;
            end = start;
            if (start >= length) {
                sort = END;
                return;
            }
            sort = sortOf(bytes[start]);
            end++;
            if (sort != SIGN) {
                while (end < length && sortOf(bytes[end]) == sort) {
                    end++;
                }
                sort = isGlued ? GLUED : sort;
            }
        }

        private static int sortOf(int one) {
            if (one >= 'a' && one <= 'z') {
                return LETTERS;
            }
            return one >= '0' && one <= '9' ? DIGITS : SIGN;
        }

        private int keyHere() {
            if (isHere("fare")) {
                return FARE;
            }
            if (isHere("fee")) {
                return FEE;
            }
            return isHere("fine") ? FINE : -1;
        }

        private boolean isHere(String word) {
            if (end - start != word.length()) {
                return false;
            }
            for (int i = 0; i < word.length(); i++) {
                if (bytes[start + i] != word.charAt(i)) {
                    return false;
                }
            }
            return true;
        }

        private boolean takesPiece() {
            switch (sort) {
                case DIGITS: return takesNumber();
                case LETTERS: return takesName();
                case SIGN: return takesOpening(bytes[start]);
                default: return false;
            }
        }

        private boolean takesNumber() {
            if (end - start > MOST_DIGITS) {
                return false;
            }
            int number = 0;
            for (int i = start; i < end; i++) {
                number = number * 10 + bytes[i] - '0';
            }
            writeThing(number);
            return true;
        }

        private boolean takesName() {
            String names = key == FARE ? "pcs" : key == FEE ? "tm" : "ps";
            int number = end - start == 1 ? names.indexOf((char) bytes[start]) : -1;
            if (number < 0) {
                return false;
            }
            writeThing(Text.FIRST_NAME - number);
            return true;
        }

        private boolean takesOpening(int sign) {
            if (sign == '(' && open < MOST_OPEN) {
                open++;
            } else if (sign == '!' && nots < MOST_OPEN) {
                nots++;
            } else {
                return false;
            }
            hold(sign);
            return true;
        }

        private boolean takesSign() {
            if (sort != SIGN) {
                return false;
            }
            int sign = bytes[start];
            if (sign == ')') {
                return takesClosing();
            }
            int tightness = tightnessOf(sign);
            if (tightness == 0) {
                return false;
            }
            if (tightness == COMPARING) {
                settle(COMPARING + 1);
                if (pending > 0 && tightnessOf(signs[pending - 1]) == COMPARING) {
                    return false;
                }
            }
            settle(tightness);
            hold(sign);
            wantsPiece = true;
            return true;
        }

        private boolean takesClosing() {
            if (open == 0) {
                return false;
            }
            settle(1);
            open--;
            pending--;
            pieceStands();
            return true;
        }

        private void writeThing(int thing) {
            things++;
            write(thing);
            pieceStands();
        }

        private void pieceStands() {
            wantsPiece = false;
            while (pending > 0 && signs[pending - 1] == '!') {
                pending--;
                nots--;
                write(-'!');
            }
        }

        /** Writes the signs that wait, back to an open ( or to one that binds less tightly than told. */
        private void settle(int tightness) {
            while (pending > 0 && signs[pending - 1] != '(' && tightnessOf(signs[pending - 1]) >= tightness) {
                pending--;
                write(-signs[pending]);
            }
        }

        private void write(int step) {
            if (written < MOST_BYTES) {
                code[written] = step;
                written++;
            }
        }

        private void hold(int sign) {
            if (pending < MOST_BYTES) {
                signs[pending] = sign;
                pending++;
            }
        }

        /** How tightly a sign joins its two sides; 0 if it joins none. */
        private static int tightnessOf(int sign) {
            switch (sign) {
                case '|': return 1;
                case '&': return 2;
                case '<': case '=': case '>': return COMPARING;
                case '+': case '-': return 4;
                case '*': case '/': return 5;
                default: return 0;
            }
        }
    }

    /** A row of shorts or floats; a place that is no number holds NONE. */
    private static final class Sheet {
        int sort = MISSING;
        int size;
        final int[] marks = new int[MOST_MARKS];

        void clear(int newSort, int newSize) {
            sort = newSort;
            size = newSize;
            for (int i = 0; i < MOST_MARKS; i++) {
                marks[i] = 0;
            }
        }

        void become(Sheet other) {
            sort = other.sort;
            size = other.size;
            System.arraycopy(other.marks, 0, marks, 0, MOST_MARKS);
        }

        boolean hasPlace(int place) {
            return isWithin(place, 0, size - 1);
        }

        /** Whether so many places from one on are there; none at all may stand right behind the last. */
        boolean hasPlaces(int place, int many) {
            return isWithin(place, 0, size) && isWithin(many, 0, size - place);
        }
    }

    private static final class Slot {
        static final int EMPTY = 0, SITTER_COPY = 1, SHEET_COPY = 2, NUMBER = 3;

        int thing;
        final Sitter sitter = new Sitter();
        final Sheet sheet = new Sheet();
        int number;
    }
}
