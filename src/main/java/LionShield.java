/** A small land's people, what their shields bear, its laws in texts, and the years that may come. */
public final class LionShield {
    public static final int BAD = -1000000001, NO = -1000000002, FULL = -1000000003, NONE = -1000000005, NOTHING = -1000000011, KIND = -1000000012, INDEX = -1000000013, SIZE = -1000000014;

    private static final int MOST_PEOPLE = 14, MOST_LAWS = 14, MOST_BYTES = 96, MOST_PLACES = 24, MOST_WAITING = 60;
    private static final int SHEETS = 4, SLOTS = 5, CHARGES = 8, LAST_YEAR = 9999, WHOLE = 64;

    private static final int HEIR = 0, YOUNGER = 1, ADOPTED = 2, LABELLED = 3, FOUNDLING = 4, BASTARD = 5, KINDS = 6;
    private static final int[] KIND_ABOVE = {-1, HEIR, HEIR, YOUNGER, ADOPTED, HEIR};
    private static final int HE = 0, SHE = 1, NOBODY = -1;

    private static final int JOIN = 0, FEE = 1, FINE = 2, KEYS = 3;

    private static final int MISSING = -1, SHORTS = 0, FLOATS = 1, MOST_FLOAT = 99999;
    private static final int HOLDS_NOTHING = 0, HOLDS_ONE = 1, HOLDS_SHEET = 2, HOLDS_NUMBER = 3;

    private final Land now = new Land();
    private final Land image = new Land();
    private boolean imageKept = false;
    private final Land thought = new Land();
    private final Shields shields = new Shields();
    private final Reader reader = new Reader();
    private final Row[] rows = new Row[SHEETS];
    private final Slot[] slots = new Slot[SLOTS];
    private final int[] waiting = new int[MOST_WAITING];
    private int waits = 0;
    private final int[] stack = new int[MOST_BYTES];

    public LionShield() {
        for (int i = 0; i < SHEETS; i++) {
            rows[i] = new Row();
        }
        for (int i = 0; i < SLOTS; i++) {
            slots[i] = new Slot();
        }
    }

    // ---- people

    public int person(int kind, int father, int mother, int sex, int first) {
        if (!isKind(kind) || !now.canBeParent(father, HE) || !now.canBeParent(mother, SHE)) {
            return BAD;
        }
        if (sex < HE || sex > SHE || !isCharge(first)) {
            return BAD;
        }
        if (!now.hasRoom()) {
            return FULL;
        }
        return now.add(kind, father, mother, sex, first);
    }

    public int told(int one, int what) {
        if (!now.has(one)) {
            return BAD;
        }
        switch (what) {
            case 0: return now.kind[one];
            case 1: return now.father[one];
            case 2: return now.mother[one];
            case 3: return now.sex[one];
            case 4: return now.first[one];
            case 5: return now.barred[one];
            case 6: return now.isHeiress(one) ? 1 : 0;
            case 7: return worthOf(now.kind[one], now.first[one]);
            default: return BAD;
        }
    }

    public int bears(int one, int charge) {
        if (!now.has(one) || !isCharge(charge)) {
            return BAD;
        }
        shields.lookAt(now);
        shields.workOut(charge);
        return shields.shown(one, charge);
    }

    public int as(int one, int kind) {
        if (!now.has(one) || !isKind(kind)) {
            return BAD;
        }
        return isOfKind(now.kind[one], kind) ? now.first[one] : KIND;
    }

    public int turns(int one, int kind) {
        if (!now.has(one) || !isKind(kind)) {
            return BAD;
        }
        int was = now.kind[one];
        now.kind[one] = kind;
        return was;
    }

    public int set(int one, int what, int v) {
        if (!now.has(one)) {
            return BAD;
        }
        int was;
        if (what == 4 && isCharge(v)) {
            was = now.first[one];
            now.first[one] = v;
        } else if (what == 5 && v >= 0 && v <= 255) {
            was = now.barred[one];
            now.barred[one] = v;
        } else {
            was = BAD;
        }
        return was;
    }

    public int fertile(int v) {
        if (v < 0 || v > 100) {
            return BAD;
        }
        int was = now.fertile;
        now.fertile = v;
        return was;
    }

    public int deal(int n) {
        if (n < 1 || n > MOST_PEOPLE) {
            return BAD;
        }
        int came = 0;
        while (came < n && now.hasRoom()) {
            now.drawFounder();
            came++;
        }
        return came;
    }

    public int seed(int v) {
        int was = now.z;
        now.z = v;
        return was;
    }

    // ---- years, shields

    public int years(int n) {
        if (n < 1 || n > 100) {
            return BAD;
        }
        int span = Math.min(n, LAST_YEAR - now.year);
        int births = 0;
        for (int i = 0; i < span; i++) {
            if (now.passYear()) {
                births++;
            }
        }
        return births;
    }

    public int alike(int one, int other) {
        if (!now.has(one) || !now.has(other) || one == other) {
            return BAD;
        }
        shields.workOutAll(now);
        return shields.packed(one) == shields.packed(other) ? 1 : 0;
    }

    public int land(int what) {
        switch (what) {
            case 0:
                shields.workOutAll(now);
                return shields.clashes();
            case 1: return now.howMany(HE);
            case 2: return now.howMany(SHE);
            case 3: return now.heiresses();
            default: return BAD;
        }
    }

    public int sixteenth(int charge) {
        if (!isCharge(charge)) {
            return BAD;
        }
        shields.lookAt(now);
        shields.workOut(charge);
        return shields.bearersOf(charge, WHOLE / 16);
    }

    public int from(int one, int charge) {
        if (!now.has(one) || !isCharge(charge)) {
            return BAD;
        }
        int founder = now.oldestFounder(one, charge);
        return founder == NOBODY ? NONE : founder;
    }

    public int match(int one, int charge, int what) {
        if (!now.has(one) || !isCharge(charge) || what < 0 || what > 1) {
            return BAD;
        }
        shields.lookAt(now);
        shields.workOut(charge);
        int best = NONE;
        int most = NONE;
        for (int other = 0; other < now.people; other++) {
            if (now.sex[other] != now.sex[one]) {
                int parts = now.sex[one] == HE ? shields.joined(one, other, charge) : shields.joined(other, one, charge);
                if (best == NONE || parts > most) {
                    best = other;
                    most = parts;
                }
            }
        }
        return what == 0 ? best : most;
    }

    public int repaint() {
        thought.become(now);
        shields.workOutAll(thought);
        int fewest = shields.clashes();
        int best = NONE;
        for (int one = 0; one < thought.people; one++) {
            if (thought.father[one] == NOBODY) {
                int was = thought.first[one];
                for (int charge = 0; charge < CHARGES; charge++) {
                    repaintThought(one, charge);
                    int clashes = shields.clashes();
                    if (clashes < fewest) {
                        fewest = clashes;
                        best = 10 * one + charge;
                    }
                    repaintThought(one, was);
                }
            }
        }
        return best;
    }

    // ---- what will be

    public int behind(int n, int what) {
        if (n < 0 || n > 100 || what < 0 || what > 1 + CHARGES) {
            return BAD;
        }
        think(n);
        if (what == 0) {
            return thought.people;
        }
        if (what == 1) {
            shields.workOutAll(thought);
            return shields.clashes();
        }
        return allBear(thought, what - 2);
    }

    public int born() {
        thought.become(now);
        for (int year = 1; year <= 200; year++) {
            if (thought.passYear()) {
                return year;
            }
        }
        return NONE;
    }

    public int gone(int n, int what) {
        if (n < 0 || n > 60 || what < 0 || what > 1) {
            return BAD;
        }
        think(n);
        shields.workOutAll(thought);
        int rarest = 0;
        int fewest = MOST_PEOPLE + 1;
        for (int charge = 0; charge < CHARGES; charge++) {
            int bearers = Integer.bitCount(shields.bearersOf(charge, 1));
            if (bearers < fewest) {
                rarest = charge;
                fewest = bearers;
            }
        }
        return what == 0 ? rarest : fewest;
    }

    public int spoon(int sheet, int what) {
        if (!isSheet(sheet) || what < 0 || what > 1) {
            return BAD;
        }
        Row row = rows[sheet];
        if (row.isMissing()) {
            return NOTHING;
        }
        shields.workOutAll(now);
        int best = NONE;
        int least = NONE;
        for (int one = 0; one < now.people; one++) {
            int apart = shields.apart(one, row);
            if (best == NONE || apart < least) {
                best = one;
                least = apart;
            }
        }
        return what == 0 ? best : least;
    }

    public int fee() {
        Law law = now.lawFor(FEE);
        return law == null ? now.people : law.give(now.year, now.people, 0, stack);
    }

    public int fine(int one) {
        if (!now.has(one)) {
            return BAD;
        }
        Law law = now.lawFor(FINE);
        if (law == null) {
            return now.first[one];
        }
        return law.give(now.first[one], Integer.bitCount(now.barred[one]), 0, stack);
    }

    // ---- texts

    public int feed(int a, int b, int c) {
        Tape tape = reader.tape;
        if (tape.length > MOST_BYTES - 12) {
            return FULL;
        }
        tape.take(a);
        tape.take(b);
        tape.take(c);
        return tape.length;
    }

    public int trim(int n) {
        if (n < 0 || n > reader.tape.length) {
            return BAD;
        }
        reader.tape.length = n;
        return n;
    }

    public int text() {
        reader.readTape();
        reader.tape.length = 0;
        if (reader.fault >= 0) {
            return -100 - reader.fault;
        }
        if (now.lawCount < 0 || now.lawCount >= MOST_LAWS) {
            return FULL;
        }
        int number = now.lawCount;
        now.laws[number] = reader.lawRead();
        now.lawCount = number + 1;
        return number;
    }

    public int textTold(int text, int what) {
        if (text < 0 || text >= now.lawCount || text >= MOST_LAWS || what < 0 || what > 1) {
            return BAD;
        }
        Law law = now.laws[text];
        if (law == null) {
            return BAD;
        }
        return what == 0 ? law.key : law.leaves;
    }

    public int why(int key) {
        if (key < 0 || key >= KEYS) {
            return BAD;
        }
        int text = now.lastLaw(key);
        return text < 0 ? NONE : text;
    }

    // ---- sheets, slots

    public int sheet(int sheet, int sort, int n) {
        if (!isSheet(sheet) || sort < MISSING || sort > FLOATS) {
            return BAD;
        }
        if (sort == MISSING) {
            rows[sheet].beginAs(MISSING, 0);
            return 0;
        }
        if (n > MOST_PLACES) {
            return BAD;
        }
        if (n < 0) {
            return SIZE;
        }
        rows[sheet].beginAs(sort, n);
        return n;
    }

    public int mark(int sheet, int place, int v) {
        if (!isSheet(sheet)) {
            return BAD;
        }
        Row row = rows[sheet];
        if (row.isMissing()) {
            return NOTHING;
        }
        if (!row.hasPlace(place)) {
            return INDEX;
        }
        if (row.sort == SHORTS) {
            if (v == NONE) {
                return KIND;
            }
            row.places[place] = (short) v;
            return 1;
        }
        if (v != NONE && (v < -MOST_FLOAT || v > MOST_FLOAT)) {
            return BAD;
        }
        row.places[place] = v;
        return 1;
    }

    public int pour(int sheet) {
        if (!isSheet(sheet)) {
            return BAD;
        }
        Row row = rows[sheet];
        if (row.isMissing()) {
            return NOTHING;
        }
        int changed = 0;
        for (int one = 0; one < now.people; one++) {
            if (row.isNumber(one)) {
                int first = within(row.places[one], 0, CHARGES - 1);
                if (first != now.first[one]) {
                    now.first[one] = first;
                    changed++;
                }
            }
        }
        return changed;
    }

    public int reads(int sheet) {
        if (!isSheet(sheet)) {
            return BAD;
        }
        Row row = rows[sheet];
        if (row.isMissing()) {
            return NOTHING;
        }
        for (int place = 0; place < row.length; place++) {
            if (row.isNumber(place) && !(now.has(place) && row.places[place] == now.first[place])) {
                return place;
            }
        }
        return NONE;
    }

    public int copy(int from, int place, int to, int at, int many) {
        if (!isSheet(from) || !isSheet(to)) {
            return BAD;
        }
        Row source = rows[from];
        Row target = rows[to];
        if (source.isMissing() || target.isMissing()) {
            return NOTHING;
        }
        if (source.sort != target.sort) {
            return KIND;
        }
        if (!source.hasSpan(place, many) || !target.hasSpan(at, many)) {
            return INDEX;
        }
        System.arraycopy(source.places, place, target.places, at, many);
        return many;
    }

    public int lay(int slot, int thing, int k) {
        if (!isSlot(slot) || thing < HOLDS_NOTHING || thing > HOLDS_NUMBER) {
            return BAD;
        }
        if (thing == HOLDS_ONE && !now.has(k) || thing == HOLDS_SHEET && !isSheet(k)) {
            return BAD;
        }
        if (thing == HOLDS_SHEET && rows[k].isMissing()) {
            return NOTHING;
        }
        Slot held = slots[slot];
        int was = held.holds;
        held.holds = thing;
        if (thing == HOLDS_ONE) {
            held.kind = now.kind[k];
            held.first = now.first[k];
        } else if (thing == HOLDS_SHEET) {
            held.row.become(rows[k]);
        } else {
            held.number = k;
        }
        return was;
    }

    public int ask(int slot, int kind) {
        if (!isSlot(slot) || !isKind(kind)) {
            return BAD;
        }
        Slot held = slots[slot];
        if (held.holds == HOLDS_NOTHING) {
            return NOTHING;
        }
        if (held.holds != HOLDS_ONE || !isOfKind(held.kind, kind)) {
            return KIND;
        }
        return worthOf(held.kind, held.first);
    }

    public int item(int slot, int place) {
        if (!isSlot(slot)) {
            return BAD;
        }
        Slot held = slots[slot];
        if (held.holds == HOLDS_NOTHING) {
            return NOTHING;
        }
        if (held.holds != HOLDS_SHEET) {
            return KIND;
        }
        if (!held.row.hasPlace(place)) {
            return INDEX;
        }
        return held.row.isNumber(place) ? held.row.places[place] : KIND;
    }

    public int rest(int slot, int n) {
        if (!isSlot(slot)) {
            return BAD;
        }
        Slot held = slots[slot];
        if (held.holds == HOLDS_NOTHING) {
            return NOTHING;
        }
        if (held.holds != HOLDS_NUMBER) {
            return KIND;
        }
        return n == 0 ? NO : held.number % n;
    }

    // ---- rows, images

    public int tell(int v) {
        if (waits < 0 || waits >= MOST_WAITING) {
            return FULL;
        }
        waiting[waits] = v;
        waits++;
        return waits;
    }

    public int check(int n) {
        int numbers = waits;
        waits = 0;
        if (n < 1 || n > 30) {
            return BAD;
        }
        if (!imageKept) {
            return NO;
        }
        thought.become(image);
        int span = Math.min(n, LAST_YEAR - image.year);
        int right = 0;
        for (int i = 0; i < span; i++) {
            thought.passYear();
            if (!isWaiting(right, numbers, thought.people)) {
                return 1 + right;
            }
            right++;
            if (!isWaiting(right, numbers, allBear(thought, 0))) {
                return 1 + right;
            }
            right++;
        }
        return right == numbers ? 0 : 1 + right;
    }

    public int keep() {
        image.become(now);
        imageKept = true;
        return now.people;
    }

    public int back() {
        if (!imageKept) {
            return NO;
        }
        now.become(image);
        return now.people;
    }

    public int count(int what) {
        switch (what) {
            case 0: return now.people;
            case 1: return now.year;
            case 2: return now.fertile;
            case 3: return now.founders();
            case 4: return now.lawCount;
            case 5: return waits;
            case 6: return reader.tape.length;
            case 7: return now.z;
            default: return BAD;
        }
    }

    // ---- what the calls share

    private void think(int n) {
        thought.become(now);
        for (int i = 0; i < n; i++) {
            thought.passYear();
        }
    }

    private int allBear(Land land, int charge) {
        shields.lookAt(land);
        shields.workOut(charge);
        return shields.together(charge);
    }

    /** A FIRST is felt in its own charge alone, so only the old and the new one are worked out again. */
    private void repaintThought(int one, int charge) {
        int was = thought.first[one];
        if (was != charge) {
            thought.first[one] = charge;
            shields.workOut(was);
            shields.workOut(charge);
        }
    }

    private boolean isWaiting(int place, int numbers, int due) {
        return place >= 0 && place < numbers && place < MOST_WAITING && waiting[place] == due;
    }

    private static boolean isKind(int kind) {
        return kind >= 0 && kind < KINDS;
    }

    private static boolean isCharge(int charge) {
        return charge >= 0 && charge < CHARGES;
    }

    private static boolean isSheet(int sheet) {
        return sheet >= 0 && sheet < SHEETS;
    }

    private static boolean isSlot(int slot) {
        return slot >= 0 && slot < SLOTS;
    }

    private static int within(int v, int least, int most) {
        return Math.max(least, Math.min(most, v));
    }

    private static boolean isOfKind(int kind, int wanted) {
        int above = kind;
        for (int step = 0; step < KINDS && isKind(above); step++) {
            if (above == wanted) {
                return true;
            }
            above = KIND_ABOVE[above];
        }
        return false;
    }

    private static int worthOf(int kind, int first) {
        int asHeir = 10 * first;
        int asYounger = asHeir + 6;
        int asAdopted = 99 - asHeir;
        switch (kind) {
            case YOUNGER: return asYounger;
            case LABELLED: return 2 * asYounger;
            case ADOPTED: return asAdopted;
            case FOUNDLING: return asAdopted - 8;
            case BASTARD: return 5;
            default: return asHeir;
        }
    }

    /** All that an IMAGE keeps: the people, the years and their lot, the laws. */
    private static final class Land {
        final int[] kind = new int[MOST_PEOPLE];
        final int[] father = new int[MOST_PEOPLE];
        final int[] mother = new int[MOST_PEOPLE];
        final int[] sex = new int[MOST_PEOPLE];
        final int[] first = new int[MOST_PEOPLE];
        final int[] barred = new int[MOST_PEOPLE];
        int people = 0;
        int fertile = 30;
        int year = 0;
        int z = 1;
        final Law[] laws = new Law[MOST_LAWS];
        int lawCount = 0;

        void become(Land other) {
            for (int one = 0; one < MOST_PEOPLE; one++) {
                kind[one] = other.kind[one];
                father[one] = other.father[one];
                mother[one] = other.mother[one];
                sex[one] = other.sex[one];
                first[one] = other.first[one];
                barred[one] = other.barred[one];
            }
            people = other.people;
            fertile = other.fertile;
            year = other.year;
            z = other.z;
            for (int i = 0; i < MOST_LAWS; i++) {
                laws[i] = other.laws[i];
            }
            lawCount = other.lawCount;
        }

        boolean has(int one) {
            return one >= 0 && one < people && one < MOST_PEOPLE;
        }

        boolean hasRoom() {
            return people >= 0 && people < MOST_PEOPLE;
        }

        boolean canBeParent(int one, int ofSex) {
            return one == NOBODY || has(one) && sex[one] == ofSex;
        }

        int add(int ofKind, int itsFather, int itsMother, int ofSex, int itsFirst) {
            if (!hasRoom()) {
                return FULL;
            }
            int one = people;
            kind[one] = ofKind;
            father[one] = itsFather;
            mother[one] = itsMother;
            sex[one] = ofSex;
            first[one] = itsFirst;
            barred[one] = 0;
            people = one + 1;
            return one;
        }

        int draw() {
            z = z * 1103515245 + 12345;
            return z >>> 8;
        }

        void drawFounder() {
            int ofKind = draw() % KINDS;
            int ofSex = draw() % 2;
            add(ofKind, NOBODY, NOBODY, ofSex, draw() % CHARGES);
        }

        /** Whether one was born. */
        boolean passYear() {
            boolean wanted = draw() % 100 < fertile;
            year++;
            return wanted && hasRoom() && bringForth();
        }

        private boolean bringForth() {
            int men = howMany(HE);
            int women = howMany(SHE);
            if (men < 1 || women < 1) {
                return false;
            }
            int itsFather = nthOf(HE, draw() % men);
            int itsMother = nthOf(SHE, draw() % women);
            int ofSex = draw() % 2;
            int ofKind = draw() % KINDS;
            add(ofKind, itsFather, itsMother, ofSex, draw() % CHARGES);
            return true;
        }

        int howMany(int ofSex) {
            int found = 0;
            for (int one = 0; one < people; one++) {
                if (sex[one] == ofSex) {
                    found++;
                }
            }
            return found;
        }

        private int nthOf(int ofSex, int n) {
            int ahead = n;
            for (int one = 0; one < people; one++) {
                if (sex[one] == ofSex) {
                    if (ahead == 0) {
                        return one;
                    }
                    ahead--;
                }
            }
            return NOBODY;
        }

        int founders() {
            int found = 0;
            for (int one = 0; one < people; one++) {
                if (father[one] == NOBODY) {
                    found++;
                }
            }
            return found;
        }

        boolean isHeiress(int one) {
            if (!has(one) || sex[one] != SHE) {
                return false;
            }
            if (father[one] == NOBODY) {
                return true;
            }
            for (int other = 0; other < people; other++) {
                if (sex[other] == HE && father[other] == father[one]) {
                    return false;
                }
            }
            return true;
        }

        int heiresses() {
            int all = 0;
            for (int one = 0; one < people; one++) {
                if (isHeiress(one)) {
                    all |= 1 << one;
                }
            }
            return all;
        }

        /** Parents have lesser numbers, so one walk downwards meets all from whom one comes. */
        int oldestFounder(int one, int charge) {
            int line = 1 << one;
            int oldest = NOBODY;
            for (int other = one; other >= 0; other--) {
                if (has(other) && (line >> other & 1) == 1) {
                    if (father[other] == NOBODY && first[other] == charge) {
                        oldest = other;
                    }
                    line |= bitOf(father[other]) | bitOf(mother[other]);
                }
            }
            return oldest;
        }

        private static int bitOf(int parent) {
            return parent == NOBODY ? 0 : 1 << parent;
        }

        /** The number of the TEXT that counts for a KEY, or -1. */
        int lastLaw(int key) {
            for (int i = Math.min(lawCount, MOST_LAWS) - 1; i >= 0; i--) {
                if (laws[i] != null && laws[i].key == key) {
                    return i;
                }
            }
            return -1;
        }

        Law lawFor(int key) {
            int number = lastLaw(key);
            return number < 0 ? null : laws[number];
        }
    }

    /** What the people of one land bear; a charge is to be worked out before it is asked for. */
    private static final class Shields {
        private final int[] unbarred = new int[CHARGES * MOST_PEOPLE];
        private final long[] pack = new long[MOST_PEOPLE];
        private final int[] stack = new int[MOST_BYTES];
        private Land land = new Land();
        private Law join = null;
        private int heiresses = 0;

        void lookAt(Land other) {
            land = other;
            join = other.lawFor(JOIN);
            heiresses = other.heiresses();
        }

        void workOutAll(Land other) {
            lookAt(other);
            for (int charge = 0; charge < CHARGES; charge++) {
                workOut(charge);
            }
        }

        /** By rising numbers: what parents bear stands before a child's is worked out. */
        void workOut(int charge) {
            for (int one = 0; one < land.people; one++) {
                unbarred[charge * MOST_PEOPLE + one] = byKind(one, charge, asHeir(one, charge));
            }
        }

        private int byKind(int one, int charge, int asHeir) {
            int asYounger = Math.max(0, asHeir - 2);
            boolean isFirst = land.first[one] == charge;
            switch (land.kind[one]) {
                case YOUNGER: return asYounger;
                case LABELLED: return asYounger / 2;
                case ADOPTED: return isFirst ? WHOLE : asHeir;
                case FOUNDLING: return isFirst ? 8 : 0;
                case BASTARD: return hidden(land.mother[one], charge);
                default: return asHeir;
            }
        }

        private int asHeir(int one, int charge) {
            if (land.father[one] == NOBODY) {
                return land.first[one] == charge ? WHOLE : 0;
            }
            return joined(land.father[one], land.mother[one], charge);
        }

        /** What an HEIR of these two bears. */
        int joined(int father, int mother, int charge) {
            int f = hidden(father, charge);
            boolean bringsIn = land.has(mother) && (heiresses >> mother & 1) == 1;
            int m = bringsIn ? hidden(mother, charge) : f;
            int given = join == null ? (f + m) / 2 : join.give(f, m, charge, stack);
            return within(given, 0, WHOLE);
        }

        /** What one would bear unbarred; nobody bears nothing. */
        private int hidden(int one, int charge) {
            if (!land.has(one) || !isCharge(charge)) {
                return 0;
            }
            return unbarred[charge * MOST_PEOPLE + one];
        }

        int shown(int one, int charge) {
            if (!land.has(one) || (land.barred[one] >> charge & 1) == 1) {
                return 0;
            }
            return hidden(one, charge);
        }

        /** A whole SHIELD in one number (a part is 0 .. 64, so 7 bits hold it): ALIKE are those with the same. */
        long packed(int one) {
            long shield = 0;
            for (int charge = 0; charge < CHARGES; charge++) {
                shield = shield << 7 | shown(one, charge);
            }
            return shield;
        }

        int clashes() {
            int found = 0;
            for (int one = 0; one < land.people; one++) {
                pack[one] = packed(one);
                for (int older = 0; older < one; older++) {
                    if (pack[older] == pack[one]) {
                        found++;
                    }
                }
            }
            return found;
        }

        int together(int charge) {
            int sum = 0;
            for (int one = 0; one < land.people; one++) {
                sum += shown(one, charge);
            }
            return sum;
        }

        int bearersOf(int charge, int leastParts) {
            int bearers = 0;
            for (int one = 0; one < land.people; one++) {
                if (shown(one, charge) >= leastParts) {
                    bearers |= 1 << one;
                }
            }
            return bearers;
        }

        /** Places that are no numbers tell nothing of a part, so they set nobody apart. */
        int apart(int one, Row row) {
            int sum = 0;
            for (int charge = 0; charge < CHARGES; charge++) {
                if (row.isNumber(charge)) {
                    sum += Math.abs(shown(one, charge) - row.places[charge]);
                }
            }
            return sum;
        }
    }

    /** A TEXT, its signs behind what they work on, so that giving needs no recursion. */
    private static final class Law {
        /** A NUMBER stands in the code as it is; a NAME and a sign stand above these. */
        static final int NAMES = 10000, SIGNS = 20000;

        final int key;
        final int leaves;
        final int[] code;

        Law(int key, int leaves, int[] code) {
            this.key = key;
            this.leaves = leaves;
            this.code = code;
        }

        int give(int a, int b, int c, int[] stack) {
            int top = 0;
            for (int i = 0; i < code.length; i++) {
                int step = code[i];
                if (step < SIGNS) {
                    if (top < stack.length) {
                        stack[top] = leaf(step, a, b, c);
                        top++;
                    }
                } else if (step == SIGNS + '!') {
                    if (top >= 1) {
                        stack[top - 1] = stack[top - 1] == 0 ? 1 : 0;
                    }
                } else if (top >= 2) {
                    top--;
                    stack[top - 1] = work(step - SIGNS, stack[top - 1], stack[top]);
                }
            }
            return stack[0];
        }

        private static int leaf(int step, int a, int b, int c) {
            switch (step) {
                case NAMES: return a;
                case NAMES + 1: return b;
                case NAMES + 2: return c;
                default: return step;
            }
        }

        private static int work(int sign, int left, int right) {
            switch (sign) {
                case '|': return left != 0 || right != 0 ? 1 : 0;
                case '&': return left != 0 && right != 0 ? 1 : 0;
                case '<': return left < right ? 1 : 0;
                case '=': return left == right ? 1 : 0;
                case '>': return left > right ? 1 : 0;
                case '+': return left + right;
                case '-': return left - right;
                case '*': return left * right;
                default: return right == 0 ? 0 : left / right;
            }
        }
    }

    private static final class Tape {
        final int[] bytes = new int[MOST_BYTES];
        int length = 0;

        void take(int four) {
            for (int shift = 24; shift >= 0; shift -= 8) {
                if (length >= 0 && length < MOST_BYTES) {
                    bytes[length] = four >>> shift & 255;
                    length++;
                }
            }
        }

        int at(int place) {
            return place >= 0 && place < length && place < MOST_BYTES ? bytes[place] : -1;
        }
    }

    /** Reads THE TAPE word by word and sign by sign into a law's code. */
    private static final class Reader {
        private static final int END = 0, LETTERS = 1, DIGITS = 2, SIGN = 3, GLUED = 4;
        private static final int PIECES = 5, TESTS = 2, MOST_OPEN = 8;

        final Tape tape = new Tape();
        private int sort = END;
        private int start = 0;
        private int stop = 0;
        private int key = -1;
        private final int[] code = new int[MOST_BYTES];
        private int used = 0;
        private int leaves = 0;
        private int parens = 0;
        private int nots = 0;
        /** The place of the FAULT, or -1. */
        int fault = -1;

        void readTape() {
            sort = END;
            start = 0;
            stop = 0;
            used = 0;
            leaves = 0;
            parens = 0;
            nots = 0;
            fault = -1;
            advance();
            key = keyHere();
            if (key < 0) {
                fail();
                return;
            }
            advance();
            readLevel(0);
            if (sort != END) {
                fail();
            }
        }

        Law lawRead() {
            int[] own = new int[used];
            for (int i = 0; i < used && i < MOST_BYTES; i++) {
                own[i] = code[i];
            }
            return new Law(key, leaves, own);
        }

        /** The first place that fails is the FAULT; what is read on behind it counts no more. */
        private void fail() {
            if (fault < 0) {
                fault = start;
            }
        }

        private void advance() {
            boolean wordAhead = sort == LETTERS || sort == DIGITS;
            start = stop;
            while (start < tape.length && tape.at(start) == ' ') {
                start++;
            }
            boolean blankAhead = start > stop;
            sort = sortOf(tape.at(start));
            stop = start;
            if (sort == SIGN) {
                stop = start + 1;
            } else if (sort != END) {
                while (stop < tape.length && sortOf(tape.at(stop)) == sort) {
                    stop++;
                }
                if (wordAhead && !blankAhead) {
                    sort = GLUED;
                }
            }
        }

        private static int sortOf(int sign) {
            if (sign < 0) {
                return END;
            }
            if (sign >= 'a' && sign <= 'z') {
                return LETTERS;
            }
            return sign >= '0' && sign <= '9' ? DIGITS : SIGN;
        }

        private int keyHere() {
            if (isWord("join")) {
                return JOIN;
            }
            if (isWord("fee")) {
                return FEE;
            }
            return isWord("fine") ? FINE : -1;
        }

        private boolean isWord(String word) {
            if (sort != LETTERS || stop - start != word.length()) {
                return false;
            }
            for (int i = 0; i < word.length(); i++) {
                if (tape.at(start + i) != word.charAt(i)) {
                    return false;
                }
            }
            return true;
        }

        private boolean isSign(int sign) {
            return sort == SIGN && tape.at(start) == sign;
        }

        /** How loosely the sign here binds (0 the loosest), or -1. */
        private int levelHere() {
            if (sort != SIGN) {
                return -1;
            }
            switch (tape.at(start)) {
                case '|': return 0;
                case '&': return 1;
                case '<': case '=': case '>': return TESTS;
                case '+': case '-': return 3;
                case '*': case '/': return 4;
                default: return -1;
            }
        }

        private void readLevel(int level) {
            if (level >= PIECES) {
                readPiece();
                return;
            }
            readLevel(level + 1);
            int most = level == TESTS ? 1 : MOST_BYTES;
            for (int i = 0; i < most && fault < 0 && levelHere() == level; i++) {
                int sign = tape.at(start);
                advance();
                readLevel(level + 1);
                write(Law.SIGNS + sign);
            }
        }

        private void readPiece() {
            if (fault >= 0) {
                return;
            }
            if (isSign('!') && nots < MOST_OPEN) {
                nots++;
                advance();
                readPiece();
                nots--;
                write(Law.SIGNS + '!');
            } else if (isSign('(') && parens < MOST_OPEN) {
                parens++;
                advance();
                readLevel(0);
                parens--;
                readClosing();
            } else {
                readLeaf();
            }
        }

        private void readClosing() {
            if (fault < 0 && isSign(')')) {
                advance();
            } else {
                fail();
            }
        }

        private void readLeaf() {
            int step = sort == DIGITS ? numberHere() : nameHere();
            if (step < 0) {
                fail();
                return;
            }
            write(step);
            leaves++;
            advance();
        }

        private int numberHere() {
            if (stop - start > 4) {
                return -1;
            }
            int number = 0;
            for (int place = start; place < stop; place++) {
                number = 10 * number + tape.at(place) - '0';
            }
            return number;
        }

        private int nameHere() {
            if (sort != LETTERS || stop - start != 1) {
                return -1;
            }
            String names = key == JOIN ? "fmn" : key == FEE ? "yp" : "ab";
            int which = names.indexOf((char) tape.at(start));
            return which < 0 ? -1 : Law.NAMES + which;
        }

        private void write(int step) {
            if (used >= 0 && used < MOST_BYTES) {
                code[used] = step;
                used++;
            }
        }
    }

    /** A SHEET; NO NUMBER is held as NONE, which no short and no float here can be. */
    private static final class Row {
        int sort = MISSING;
        int length = 0;
        final int[] places = new int[MOST_PLACES];

        void beginAs(int ofSort, int n) {
            sort = ofSort;
            length = n;
            for (int place = 0; place < MOST_PLACES; place++) {
                places[place] = 0;
            }
        }

        void become(Row other) {
            sort = other.sort;
            length = other.length;
            for (int place = 0; place < MOST_PLACES; place++) {
                places[place] = other.places[place];
            }
        }

        boolean isMissing() {
            return sort == MISSING;
        }

        boolean hasPlace(int place) {
            return place >= 0 && place < length && place < MOST_PLACES;
        }

        boolean hasSpan(int place, int many) {
            return place >= 0 && many >= 0 && many <= length && place <= length - many;
        }

        boolean isNumber(int place) {
            return hasPlace(place) && places[place] != NONE;
        }
    }

    /** What a SLOT holds is its own: of a person what WORTH needs, of a SHEET a row that stays. */
    private static final class Slot {
        int holds = HOLDS_NOTHING;
        int kind = HEIR;
        int first = 0;
        int number = 0;
        final Row row = new Row();
    }
}
