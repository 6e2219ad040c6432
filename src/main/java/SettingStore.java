import java.util.Arrays;
import java.util.NoSuchElementException;

/** Wear-levelled settings store on a chip of a few sectors; ../shared/DOC.md says what each call answers. */
public final class SettingStore {
    public static final int NONE = -1;
    public static final long NOTHING = -4L;

    private static final int NO_ROOM = -2;
    private static final int POWER_WENT = -3;
    private static final long NO_SUCH_VALUE = -5L;

    private static final int FIRST_SECTORS = 3;
    private static final int FEWEST_SECTORS = 2;
    private static final int MOST_SECTORS = 6;
    private static final int FIRST_BYTES = 64;
    private static final int FEWEST_BYTES = 32;
    private static final int MOST_BYTES = 128;
    private static final int MOST_POWER = 9999;
    private static final int MOST_HANDOVERS = 1000;

    private static final int BLANK = 255;
    private static final int RECEIVING = 127;
    private static final int ACTIVE = 63;
    private static final int STATE_AT = 0;
    private static final int NUMBER_AT = 1;
    private static final int CHECK_AT = 3;
    private static final int HEAD = 4;
    private static final int NUMBERS = 65536;

    private static final int SETTING_TAGS = 32;
    private static final int ALL_TAGS = 48;
    private static final int LONGEST = 4;
    private static final int MOST_PARTS = 8;
    private static final int MOST_COUNTED = 16777215;

    private static final int SETTING = 0;
    private static final int COUNTER = 1;
    private static final int PART = 2;
    private static final int COMMIT = 3;

    private static final int SETTING_CODE = 16;
    private static final int COUNTER_CODE = 43;
    private static final int PART_CODE = 48;
    private static final int COMMIT_TAG = 63;
    private static final int COMMIT_CODE = 65;

    /** TAG, code and CHECK: what a SETTING has beside its LENGTH bytes. */
    private static final int FRAME = 3;
    private static final int VALUE_AT = 2;
    private static final int BASE_BYTES = 3;
    private static final int COUNTER_WRITTEN = 6;
    private static final int COUNTER_SIZE = 14;
    private static final int COMMIT_SIZE = 4;
    private static final int MOST_ENTRIES = (MOST_BYTES - HEAD) / FRAME;

    private static final int NEWEST = 0;
    private static final int OLDER = 1;
    private static final int BAD = 2;
    private static final int IDLE = 3;

    private final Store store;
    /** Stands in for the store where a call asks what would be, so that the store itself stays as it is. */
    private final Store trial;

    public SettingStore() {
        store = new Store();
        trial = new Store();
    }

    public boolean chip(int s, int b) {
        if (!within(s, FEWEST_SECTORS, MOST_SECTORS) || !within(b, FEWEST_BYTES, MOST_BYTES)) {
            return false;
        }
        store.renew(s, b);
        return true;
    }

    public int on() {
        return store.isOn() ? NONE : store.switchOn();
    }

    public boolean off() {
        if (!store.isOn()) {
            return false;
        }
        store.switchOff();
        return true;
    }

    public boolean power(int n, int mask) {
        if (!within(n, 0, MOST_POWER) || !within(mask, 0, 255)) {
            return false;
        }
        store.chip.arm(n, mask);
        return true;
    }

    public int rot(int sector, int place, int v) {
        if (store.isOn() || !store.chip.holds(sector, place) || !within(v, 0, 255)) {
            return NONE;
        }
        return store.chip.decay(sector, place, v);
    }

    public int set(int tag, int value, int length) {
        if (!store.isOn() || !isSetting(tag, length)) {
            return NONE;
        }
        if (store.change.begun) {
            return store.change.tell(tag, value, length);
        }
        return store.keep(tag, value, length);
    }

    public int drop(int tag) {
        if (!store.isOn() || !within(tag, 0, SETTING_TAGS - 1) || !store.wouldHave(tag)) {
            return NONE;
        }
        if (store.change.begun) {
            return store.change.tell(tag, 0, 0);
        }
        return store.keep(tag, 0, 0);
    }

    public int bump(int tag) {
        if (!store.isOn() || store.change.begun || !within(tag, SETTING_TAGS, ALL_TAGS - 1)) {
            return NONE;
        }
        return store.countUp(tag);
    }

    public boolean begin() {
        if (!store.isOn() || store.change.begun) {
            return false;
        }
        store.change.start();
        return true;
    }

    public int commit() {
        if (!store.change.begun) {
            return NONE;
        }
        if (store.change.told == 0) {
            store.change.forget();
            return NONE;
        }
        return store.writeChange();
    }

    public int abort() {
        if (!store.change.begun) {
            return NONE;
        }
        int had = store.change.told;
        store.change.forget();
        return had;
    }

    public long get(int tag) {
        if (!store.isOn() || !isTag(tag)) {
            return NONE;
        }
        return store.look().newestValue(tag);
    }

    public int length(int tag) {
        if (!store.isOn() || !isTag(tag)) {
            return NONE;
        }
        return store.look().newestLength(tag);
    }

    public int hand() {
        return store.isOn() ? store.handOverByHand() : NONE;
    }

    public int at(int sector, int place) throws NoSuchElementException {
        if (!store.chip.holds(sector, place)) {
            throw new NoSuchElementException("no such byte");
        }
        return store.chip.peek(sector, place);
    }

    public int sector(int sector, int what) {
        Chip chip = store.chip;
        if (!chip.hasSector(sector)) {
            return NONE;
        }
        switch (what) {
            case 0:
                return chip.peek(sector, STATE_AT);
            case 1:
                return chip.numberOf(sector);
            case 2:
                return chip.erasesOf(sector);
            case 3:
                return chip.isBlank(sector) ? 1 : 0;
            case 4:
                return store.inUse == sector ? 1 : 0;
            default:
                return NONE;
        }
    }

    public int entry(int sector, int i, int what) {
        if (!store.chip.hasSector(sector)) {
            return NONE;
        }
        Reading reading = store.reading;
        reading.scan(store.chip, sector);
        if (i == NONE) {
            return reading.entries;
        }
        return reading.tell(i, what);
    }

    public int space(int sector, int what) {
        if (!store.chip.hasSector(sector)) {
            return NONE;
        }
        Reading reading = store.reading;
        reading.scan(store.chip, sector);
        switch (what) {
            case 0:
                return reading.free;
            case 1:
                return reading.lost;
            case 2:
                return reading.valuedBytes();
            case 3:
                return reading.allBytes() - reading.valuedBytes();
            default:
                return NONE;
        }
    }

    public int until(int length) {
        if (!store.isOn() || !within(length, 1, LONGEST)) {
            return NONE;
        }
        return store.look().freeBytes() / (FRAME + length);
    }

    public int after() {
        return store.isOn() ? store.look().freeBehindHandover() : NONE;
    }

    public int costs(int length) {
        if (!store.isOn() || store.change.begun || !within(length, 1, LONGEST)) {
            return NONE;
        }
        return store.costOf(FRAME + length);
    }

    public long torn(int tag, int value, int length, int n, int mask, int what) {
        if (!store.isOn() || store.change.begun || !isSetting(tag, length)) {
            return NONE;
        }
        if (!within(n, 1, store.costOf(FRAME + length)) || !within(mask, 0, 255) || !within(what, 0, 3)) {
            return NONE;
        }
        trial.copyFrom(store);
        trial.chip.arm(n, mask);
        trial.keep(tag, value, length);
        int valued = trial.switchOn();
        switch (what) {
            case 0:
                return trial.look().newestValue(tag);
            case 1:
                return trial.look().freeBytes();
            case 2:
                return trial.chip.doings;
            default:
                return valued;
        }
    }

    public long history(int tag, int i) {
        if (!store.isOn() || !isTag(tag) || i < NONE) {
            return NONE;
        }
        Reading reading = store.look();
        if (i == NONE) {
            return reading.tellingOf(tag);
        }
        return reading.earlierValue(tag, i);
    }

    public int wears(int n, int what) {
        if (!store.isOn() || !within(n, 0, MOST_HANDOVERS) || !within(what, 0, 2)) {
            return NONE;
        }
        trial.copyFrom(store);
        trial.wearOut(n);
        if (what == 2) {
            return trial.inUse;
        }
        return what == 0 ? trial.chip.mostErases() : trial.chip.fewestErases();
    }

    public int wear(int what) {
        Chip chip = store.chip;
        switch (what) {
            case 0:
                return chip.mostErases();
            case 1:
                return chip.fewestErases();
            case 2:
                return chip.allErases();
            case 3:
                return chip.writes;
            case 4:
                return unevenness(chip);
            default:
                return NONE;
        }
    }

    public long tags() {
        return store.isOn() ? store.look().valuedTags() : NONE;
    }

    public int count(int what) {
        switch (what) {
            case 0:
                return store.chip.sectors;
            case 1:
                return store.chip.size;
            case 2:
                return store.isOn() ? 1 : 0;
            case 3:
                return store.inUse;
            case 4:
                return store.change.begun ? store.change.told : NONE;
            case 5:
                return store.chip.powerIn;
            case 6:
                return store.chip.outages;
            case 7:
                return store.handovers;
            default:
                return NONE;
        }
    }

    private static boolean within(int number, int least, int most) {
        return number >= least && number <= most;
    }

    private static boolean isTag(int tag) {
        return tag >= 0 && tag < ALL_TAGS;
    }

    private static boolean isSetting(int tag, int length) {
        return within(tag, 0, SETTING_TAGS - 1) && within(length, 1, LONGEST);
    }

    private static int checkOf(int sum) {
        return (sum + 85) % 251;
    }

    private static int unevenness(Chip chip) {
        int all = chip.allErases();
        if (all <= 0 || chip.sectors <= 0) {
            return 0;
        }
        float mean = (float) all / (float) chip.sectors;
        return bitsOf((float) chip.mostErases() / mean);
    }

    /** The bits of a normal number above 0, by hand: LANGUAGE.md leaves Float.floatToIntBits out. */
    private static int bitsOf(float number) {
        float rest = number;
        int exponent = 127;
        for (int i = 0; i < 126 && rest >= 2.0f; i++) {
            rest = rest / 2.0f;
            exponent++;
        }
        for (int i = 0; i < 126 && rest < 1.0f; i++) {
            rest = rest * 2.0f;
            exponent--;
        }
        return (exponent << 23) + (int) ((rest - 1.0f) * 8388608.0f);
    }

    /** The CHIP: bytes, what was done to them, and the POWER that every DOING needs. */
    private static final class Chip {
        private final int[] cells = new int[MOST_SECTORS * MOST_BYTES];
        private final int[] erases = new int[MOST_SECTORS];
        private int sectors;
        private int size;
        private int writes;
        /** DOINGS of the call that runs. */
        private int doings;
        private boolean powered;
        private int powerIn;
        private int mask;
        private int outages;

        private void renew(int s, int b) {
            sectors = s;
            size = b;
            Arrays.fill(cells, BLANK);
            Arrays.fill(erases, 0);
            writes = 0;
            doings = 0;
            powered = false;
            powerIn = 0;
            mask = 0;
            outages = 0;
        }

        private void copyFrom(Chip other) {
            sectors = other.sectors;
            size = other.size;
            System.arraycopy(other.cells, 0, cells, 0, cells.length);
            System.arraycopy(other.erases, 0, erases, 0, erases.length);
            writes = other.writes;
            doings = other.doings;
            powered = other.powered;
            powerIn = other.powerIn;
            mask = other.mask;
            outages = other.outages;
        }

        private void arm(int n, int reached) {
            powerIn = n;
            mask = reached;
        }

        private boolean hasSector(int sector) {
            return sector >= 0 && sector < sectors;
        }

        private boolean holds(int sector, int place) {
            return sector >= 0 && sector < sectors && place >= 0 && place < size;
        }

        private int peek(int sector, int place) {
            return holds(sector, place) ? cells[sector * size + place] : BLANK;
        }

        private int decay(int sector, int place, int v) {
            if (!holds(sector, place)) {
                return NONE;
            }
            cells[sector * size + place] &= v;
            return cells[sector * size + place];
        }

        /** Without POWER nothing is done, so that a run of DOINGS need not ask behind each of them. */
        private void write(int sector, int place, int v) {
            if (!powered || !holds(sector, place)) {
                return;
            }
            int reached = endures() ? 255 : mask;
            cells[sector * size + place] &= v | (255 ^ reached);
            writes++;
        }

        private void erase(int sector) {
            if (!powered || !hasSector(sector)) {
                return;
            }
            int reached = endures() ? size : size / 2;
            for (int place = 0; place < reached; place++) {
                cells[sector * size + place] = BLANK;
            }
            erases[sector]++;
        }

        /** Counts a DOING; false: POWER goes in it. */
        private boolean endures() {
            doings++;
            if (powerIn == 0) {
                return true;
            }
            powerIn--;
            if (powerIn > 0) {
                return true;
            }
            powered = false;
            outages++;
            return false;
        }

        private void makeReady(int sector, int number) {
            int high = number / 256;
            int low = number % 256;
            write(sector, NUMBER_AT, high);
            write(sector, NUMBER_AT + 1, low);
            write(sector, CHECK_AT, checkOf(high + low));
            write(sector, STATE_AT, RECEIVING);
        }

        private void writeDraft(int sector, int place, Draft draft) {
            for (int i = 0; i < draft.used && i < draft.row.length; i++) {
                write(sector, place + i, draft.row[i]);
            }
        }

        private void eraseAllBut(int kept) {
            for (int s = 0; s < sectors; s++) {
                if (s != kept && !isBlank(s)) {
                    erase(s);
                }
            }
        }

        private boolean isBlank(int sector) {
            return usedEnd(sector) == 0;
        }

        /** The place behind the last byte that is not 255. */
        private int usedEnd(int sector) {
            if (!hasSector(sector)) {
                return 0;
            }
            int end = size;
            while (end > 0 && cells[sector * size + end - 1] == BLANK) {
                end--;
            }
            return end;
        }

        private void copySector(int sector, int[] row) {
            if (!hasSector(sector)) {
                return;
            }
            for (int place = 0; place < size && place < row.length; place++) {
                row[place] = cells[sector * size + place];
            }
        }

        private int numberOf(int sector) {
            return peek(sector, NUMBER_AT) * 256 + peek(sector, NUMBER_AT + 1);
        }

        private boolean isActive(int sector) {
            int sum = peek(sector, NUMBER_AT) + peek(sector, NUMBER_AT + 1);
            return peek(sector, STATE_AT) == ACTIVE && peek(sector, CHECK_AT) == checkOf(sum);
        }

        private int greatestActive() {
            int found = NONE;
            for (int s = 0; s < sectors; s++) {
                if (isActive(s) && (found == NONE || numberOf(s) > numberOf(found))) {
                    found = s;
                }
            }
            return found;
        }

        private int leastErased(int except) {
            int found = NONE;
            for (int s = 0; s < sectors; s++) {
                if (s != except && (found == NONE || erasesOf(s) < erasesOf(found))) {
                    found = s;
                }
            }
            return found;
        }

        private int erasesOf(int sector) {
            return hasSector(sector) ? erases[sector] : 0;
        }

        private int mostErases() {
            int most = 0;
            for (int s = 0; s < sectors; s++) {
                most = Math.max(most, erases[s]);
            }
            return most;
        }

        private int fewestErases() {
            return erasesOf(leastErased(NONE));
        }

        private int allErases() {
            int all = 0;
            for (int s = 0; s < sectors; s++) {
                all += erases[s];
            }
            return all;
        }
    }

    /** The bytes of one ENTRY ahead of its WRITES. */
    private static final class Draft {
        private final int[] row = new int[FRAME + LONGEST];
        private int used;
        private int sum;

        private void fillSetting(int tag, int code, int value, int bytes) {
            start(tag, code + bytes);
            putBytes(value, bytes);
            put(checkOf(sum));
        }

        private void fillCounter(int tag, int base) {
            start(tag, COUNTER_CODE);
            putBytes(base, BASE_BYTES);
            put(checkOf(sum));
        }

        private void fillCommit(int parts) {
            start(COMMIT_TAG, COMMIT_CODE);
            put(parts);
            put(checkOf(sum));
        }

        private void start(int first, int second) {
            used = 0;
            sum = 0;
            put(first);
            put(second);
        }

        private void putBytes(int value, int bytes) {
            for (int i = bytes - 1; i >= 0; i--) {
                put((value >> (8 * i)) & 255);
            }
        }

        private void put(int v) {
            if (used < row.length) {
                row[used] = v;
                used++;
                sum += v;
            }
        }
    }

    /** What is found when a SECTOR is READ. */
    private static final class Reading {
        private final int[] row = new int[MOST_BYTES];
        private final int[] places = new int[MOST_ENTRIES];
        private final int[] kinds = new int[MOST_ENTRIES];
        private final int[] labels = new int[MOST_ENTRIES];
        private final int[] sizes = new int[MOST_ENTRIES];
        private final int[] marks = new int[MOST_ENTRIES];
        private final int[] newest = new int[ALL_TAGS];
        private int size;
        private int entries;
        private int free;
        private int lost;

        private void scan(Chip chip, int sector) {
            size = chip.size;
            chip.copySector(sector, row);
            entries = 0;
            lost = 0;
            int end = chip.usedEnd(sector);
            int place = HEAD;
            // One step more than ENTRIES: the shortest may leave a byte behind them that is LOST.
            for (int i = 0; i <= MOST_ENTRIES && place < end && lost == 0; i++) {
                place = takeEntry(place);
            }
            free = lost > 0 ? size : place;
            markNewest();
        }

        /** Answers the place behind the ENTRY. */
        private int takeEntry(int place) {
            int first = byteAt(place);
            int second = byteAt(place + 1);
            int kind = kindOf(first, second);
            int bytes = sizeOf(kind, second);
            if (kind == NONE || place + bytes > size || entries >= MOST_ENTRIES) {
                lost = size - place;
                return place;
            }
            places[entries] = place;
            kinds[entries] = kind;
            labels[entries] = first;
            sizes[entries] = bytes;
            marks[entries] = firstMark(kind, place, bytes);
            entries++;
            if (kind == COMMIT) {
                settleParts(entries - 1);
            }
            return place + bytes;
        }

        private static int kindOf(int first, int second) {
            if (first == COMMIT_TAG && second == COMMIT_CODE) {
                return COMMIT;
            }
            if (within(first, SETTING_TAGS, ALL_TAGS - 1) && second == COUNTER_CODE) {
                return COUNTER;
            }
            if (!within(first, 0, SETTING_TAGS - 1)) {
                return NONE;
            }
            if (within(second, SETTING_CODE, SETTING_CODE + LONGEST)) {
                return SETTING;
            }
            return within(second, PART_CODE, PART_CODE + LONGEST) ? PART : NONE;
        }

        private static int sizeOf(int kind, int second) {
            switch (kind) {
                case SETTING:
                    return FRAME + second - SETTING_CODE;
                case PART:
                    return FRAME + second - PART_CODE;
                case COUNTER:
                    return COUNTER_SIZE;
                default:
                    return COMMIT_SIZE;
            }
        }

        /** PARTS and COMMITS are IDLE until a COMMIT that counts is found behind them. */
        private int firstMark(int kind, int place, int bytes) {
            int checked = (kind == COUNTER ? COUNTER_WRITTEN : bytes) - 1;
            int sum = 0;
            for (int i = 0; i < checked; i++) {
                sum += byteAt(place + i);
            }
            if (byteAt(place + checked) != checkOf(sum)) {
                return BAD;
            }
            return kind == PART || kind == COMMIT ? IDLE : OLDER;
        }

        private void settleParts(int at) {
            if (!has(at) || marks[at] == BAD) {
                return;
            }
            int parts = byteAt(places[at] + 2);
            if (!within(parts, 1, MOST_PARTS) || parts > at) {
                return;
            }
            for (int i = at - parts; i < at; i++) {
                if (kinds[i] != PART || marks[i] == BAD) {
                    return;
                }
            }
            for (int i = at - parts; i < at; i++) {
                marks[i] = OLDER;
            }
            marks[at] = NEWEST;
        }

        private void markNewest() {
            Arrays.fill(newest, NONE);
            for (int i = 0; i < entries; i++) {
                if (marks[i] == OLDER && isTag(labels[i])) {
                    newest[labels[i]] = i;
                }
            }
            for (int tag = 0; tag < ALL_TAGS; tag++) {
                if (has(newest[tag])) {
                    marks[newest[tag]] = NEWEST;
                }
            }
        }

        private int byteAt(int place) {
            return place >= 0 && place < size && place < row.length ? row[place] : BLANK;
        }

        private boolean has(int i) {
            return i >= 0 && i < entries;
        }

        private int tell(int i, int what) {
            if (!has(i)) {
                return NONE;
            }
            switch (what) {
                case 0:
                    return places[i];
                case 1:
                    return labels[i];
                case 2:
                    return kinds[i];
                case 3:
                    return sizes[i];
                case 4:
                    return marks[i];
                default:
                    return NONE;
            }
        }

        private int freeBytes() {
            return size - free;
        }

        private int freeBehindHandover() {
            return size - HEAD - valuedBytes();
        }

        private int newestOf(int tag) {
            return tag >= 0 && tag < newest.length ? newest[tag] : NONE;
        }

        private boolean hasValue(int tag) {
            return valuedSize(tag) > 0;
        }

        /** Bytes of the NEWEST of a TAG; 0: it has no value. */
        private int valuedSize(int tag) {
            int i = newestOf(tag);
            return has(i) && sizes[i] > FRAME ? sizes[i] : 0;
        }

        private long newestValue(int tag) {
            return valueOf(newestOf(tag));
        }

        private int newestLength(int tag) {
            int i = newestOf(tag);
            if (!has(i)) {
                return 0;
            }
            return kinds[i] == COUNTER ? BASE_BYTES : sizes[i] - FRAME;
        }

        private long valueOf(int i) {
            if (!has(i) || sizes[i] == FRAME) {
                return NOTHING;
            }
            if (kinds[i] == COUNTER) {
                return numberAt(places[i] + VALUE_AT, BASE_BYTES) + clearedBits(places[i] + COUNTER_WRITTEN);
            }
            return numberAt(places[i] + VALUE_AT, sizes[i] - FRAME);
        }

        private long numberAt(int place, int bytes) {
            long number = 0;
            for (int i = 0; i < bytes; i++) {
                number = number * 256 + byteAt(place + i);
            }
            return number;
        }

        private int clearedBits(int place) {
            int cleared = 0;
            for (int i = 0; i < COUNTER_SIZE - COUNTER_WRITTEN; i++) {
                cleared += 8 - Integer.bitCount(byteAt(place + i));
            }
            return cleared;
        }

        /** Where the NEWEST COUNTER of a TAG has a bit to clear; NONE: no COUNTER, or none is left. */
        private int unspentPlace(int tag) {
            int i = newestOf(tag);
            if (!has(i) || kinds[i] != COUNTER) {
                return NONE;
            }
            for (int k = COUNTER_WRITTEN; k < COUNTER_SIZE; k++) {
                if (byteAt(places[i] + k) != 0) {
                    return places[i] + k;
                }
            }
            return NONE;
        }

        private boolean tells(int i, int tag) {
            return has(i) && labels[i] == tag && (marks[i] == NEWEST || marks[i] == OLDER);
        }

        private int tellingOf(int tag) {
            int telling = 0;
            for (int i = 0; i < entries; i++) {
                telling += tells(i, tag) ? 1 : 0;
            }
            return telling;
        }

        private long earlierValue(int tag, int back) {
            int passed = 0;
            for (int i = entries - 1; i >= 0; i--) {
                if (!tells(i, tag)) {
                    continue;
                }
                if (passed == back) {
                    return valueOf(i);
                }
                passed++;
            }
            return NO_SUCH_VALUE;
        }

        private int allBytes() {
            int bytes = 0;
            for (int i = 0; i < entries; i++) {
                bytes += sizes[i];
            }
            return bytes;
        }

        private int valuedBytes() {
            int bytes = 0;
            for (int tag = 0; tag < ALL_TAGS; tag++) {
                bytes += valuedSize(tag);
            }
            return bytes;
        }

        private int copyWrites() {
            int written = 0;
            for (int tag = 0; tag < ALL_TAGS; tag++) {
                if (hasValue(tag)) {
                    written += tag < SETTING_TAGS ? valuedSize(tag) : COUNTER_WRITTEN;
                }
            }
            return written;
        }

        private long valuedTags() {
            long bits = 0;
            for (int tag = 0; tag < ALL_TAGS; tag++) {
                bits |= hasValue(tag) ? 1L << tag : 0L;
            }
            return bits;
        }
    }

    /** The settings of a CHANGE, told but not WRITTEN. */
    private static final class Change {
        private final int[] labels = new int[MOST_PARTS];
        private final int[] values = new int[MOST_PARTS];
        private final int[] lengths = new int[MOST_PARTS];
        private boolean begun;
        private int told;

        private void start() {
            begun = true;
            told = 0;
        }

        private void forget() {
            begun = false;
            told = 0;
        }

        private int find(int tag) {
            for (int i = 0; i < told; i++) {
                if (labels[i] == tag) {
                    return i;
                }
            }
            return NONE;
        }

        private int tell(int tag, int value, int bytes) {
            int i = find(tag);
            if (i == NONE) {
                if (told >= MOST_PARTS) {
                    return NONE;
                }
                i = told;
                told++;
            }
            labels[i] = tag;
            values[i] = value;
            lengths[i] = bytes;
            return 0;
        }

        private int bytesToWrite() {
            int bytes = COMMIT_SIZE;
            for (int i = 0; i < told; i++) {
                bytes += FRAME + lengths[i];
            }
            return bytes;
        }
    }

    /** What is switched on and off: it keeps only the CHIP as its memory and READS it anew for each call. */
    private static final class Store {
        private final Chip chip = new Chip();
        private final Reading reading = new Reading();
        private final Change change = new Change();
        private final Draft draft = new Draft();
        /** The SECTOR in use; NONE: OFF. */
        private int inUse = NONE;
        private int handovers;
        /** Where the next ENTRY goes. */
        private int pen;

        private Store() {
            chip.renew(FIRST_SECTORS, FIRST_BYTES);
        }

        private void renew(int s, int b) {
            chip.renew(s, b);
            handovers = 0;
            switchOff();
        }

        /** A CHANGE is not taken along: what is tried out is never in one. */
        private void copyFrom(Store other) {
            chip.copyFrom(other.chip);
            inUse = other.inUse;
            handovers = other.handovers;
            change.forget();
        }

        private boolean isOn() {
            return inUse != NONE;
        }

        private void switchOff() {
            inUse = NONE;
            chip.powered = false;
            change.forget();
        }

        private int switchOn() {
            chip.powered = true;
            chip.doings = 0;
            int found = chip.greatestActive();
            chip.eraseAllBut(found);
            if (found == NONE) {
                found = chip.leastErased(NONE);
                chip.makeReady(found, 1);
                chip.write(found, STATE_AT, ACTIVE);
            }
            inUse = found;
            return outcome(Long.bitCount(look().valuedTags()));
        }

        /** The answer of a call that did DOINGS: POWER that went in it comes ahead of any other. */
        private int outcome(int answer) {
            if (chip.powered) {
                return answer;
            }
            switchOff();
            return POWER_WENT;
        }

        private Reading look() {
            reading.scan(chip, inUse);
            return reading;
        }

        private boolean wouldHave(int tag) {
            int i = change.begun ? change.find(tag) : NONE;
            if (i != NONE) {
                return change.lengths[i] > 0;
            }
            return look().hasValue(tag);
        }

        private int keep(int tag, int value, int bytes) {
            chip.doings = 0;
            if (!makeRoom(FRAME + bytes)) {
                return NO_ROOM;
            }
            draft.fillSetting(tag, SETTING_CODE, value, bytes);
            chip.writeDraft(inUse, pen, draft);
            return outcome(chip.doings);
        }

        private int countUp(int tag) {
            reading.scan(chip, inUse);
            int value = reading.hasValue(tag) ? (int) reading.newestValue(tag) : 0;
            if (value >= MOST_COUNTED) {
                return NONE;
            }
            int place = reading.unspentPlace(tag);
            if (place != NONE) {
                int bits = chip.peek(inUse, place);
                chip.write(inUse, place, bits ^ highestBit(bits));
                return outcome(value + 1);
            }
            if (!makeRoom(COUNTER_SIZE)) {
                return NO_ROOM;
            }
            draft.fillCounter(tag, value + 1);
            chip.writeDraft(inUse, pen, draft);
            return outcome(value + 1);
        }

        private static int highestBit(int bits) {
            for (int bit = 128; bit > 0; bit = bit / 2) {
                if ((bits & bit) != 0) {
                    return bit;
                }
            }
            return 0;
        }

        private int writeChange() {
            chip.doings = 0;
            if (!makeRoom(change.bytesToWrite())) {
                return NO_ROOM;
            }
            for (int i = 0; i < change.told; i++) {
                draft.fillSetting(change.labels[i], PART_CODE, change.values[i], change.lengths[i]);
                chip.writeDraft(inUse, pen, draft);
                pen += draft.used;
            }
            draft.fillCommit(change.told);
            chip.writeDraft(inUse, pen, draft);
            change.forget();
            return outcome(chip.doings);
        }

        /** False: no ROOM, nothing was done. */
        private boolean makeRoom(int bytes) {
            reading.scan(chip, inUse);
            if (reading.freeBytes() < bytes) {
                if (reading.freeBehindHandover() < bytes) {
                    return false;
                }
                handOver();
                reading.scan(chip, inUse);
            }
            pen = reading.free;
            return true;
        }

        private int handOverByHand() {
            chip.doings = 0;
            reading.scan(chip, inUse);
            handOver();
            return outcome(chip.doings);
        }

        /** The SECTOR in use has been READ ahead of it. */
        private void handOver() {
            int next = chip.leastErased(inUse);
            if (!chip.isBlank(next)) {
                chip.erase(next);
            }
            chip.makeReady(next, (chip.numberOf(inUse) + 1) % NUMBERS);
            int place = HEAD;
            for (int tag = 0; tag < ALL_TAGS; tag++) {
                if (!reading.hasValue(tag)) {
                    continue;
                }
                int value = (int) reading.valueOf(reading.newestOf(tag));
                if (tag < SETTING_TAGS) {
                    draft.fillSetting(tag, SETTING_CODE, value, reading.newestLength(tag));
                } else {
                    draft.fillCounter(tag, value);
                }
                chip.writeDraft(next, place, draft);
                place += tag < SETTING_TAGS ? draft.used : COUNTER_SIZE;
            }
            chip.write(next, STATE_AT, ACTIVE);
            chip.erase(inUse);
            if (chip.powered) {
                inUse = next;
                handovers++;
            }
        }

        private int costOf(int bytes) {
            reading.scan(chip, inUse);
            if (reading.freeBytes() >= bytes) {
                return bytes;
            }
            return reading.freeBehindHandover() < bytes ? NO_ROOM : handoverDoings() + bytes;
        }

        private int handoverDoings() {
            int wiped = chip.isBlank(chip.leastErased(inUse)) ? 0 : 1;
            int head = HEAD + 1;
            return wiped + head + reading.copyWrites() + 1;
        }

        /** Only ERASES are followed: while it is ON all SECTORS but the one in use are blank, so each HANDOVER has one. */
        private void wearOut(int times) {
            for (int i = 0; i < times; i++) {
                int next = chip.leastErased(inUse);
                if (chip.hasSector(inUse) && chip.hasSector(next)) {
                    chip.erases[inUse]++;
                    inUse = next;
                }
            }
        }
    }
}
