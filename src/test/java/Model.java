import java.util.ArrayList;
import java.util.Arrays;
import java.util.LinkedHashMap;
import java.util.List;
import java.util.Map;
import java.util.TreeMap;

/**
 * The document written down a second time, in another way: copies for what would be, a thrown PowerGone where POWER
 * goes, ENTRIES as objects. ReplayTest asks it and the class the same.
 */
final class Model {
    static final class PowerGone extends Exception {
        private static final long serialVersionUID = 1L;
    }

    record Entry(int place, int tag, int kind, int size, boolean bad) {
    }

    record Told(int value, int length) {
    }

    int[][] chip;
    int[] erased;
    int writes;
    int doings;
    int powerIn;
    int mask;
    int went;
    int handovers;
    int inUse = -1;
    Map<Integer, Told> change;

    Model(int s, int b) {
        chip = new int[s][b];
        for (int[] sector : chip) {
            Arrays.fill(sector, 255);
        }
        erased = new int[s];
    }

    Model copy() {
        Model m = new Model(chip.length, chip[0].length);
        for (int s = 0; s < chip.length; s++) {
            m.chip[s] = chip[s].clone();
        }
        m.erased = erased.clone();
        m.inUse = inUse;
        return m;
    }

    private boolean torn() {
        doings++;
        return powerIn > 0 && --powerIn == 0;
    }

    private void gone() throws PowerGone {
        went++;
        inUse = -1;
        change = null;
        throw new PowerGone();
    }

    private void write(int s, int p, int v) throws PowerGone {
        boolean torn = torn();
        writes++;
        for (int bit = 1; bit < 256; bit <<= 1) {
            if ((v & bit) == 0 && (!torn || (mask & bit) != 0)) {
                chip[s][p] &= ~bit;
            }
        }
        if (torn) {
            gone();
        }
    }

    private void erase(int s) throws PowerGone {
        boolean torn = torn();
        erased[s]++;
        Arrays.fill(chip[s], 0, torn ? chip[s].length / 2 : chip[s].length, 255);
        if (torn) {
            gone();
        }
    }

    boolean blank(int s) {
        return Arrays.stream(chip[s]).allMatch(v -> v == 255);
    }

    static int check(int[] row, int from, int to) {
        return (Arrays.stream(row, from, to).sum() + 85) % 251;
    }

    private int write(int s, int p, int[] row) throws PowerGone {
        for (int v : row) {
            write(s, p++, v);
        }
        return p;
    }

    private static int[] setting(int tag, int code, long value, int length) {
        int[] row = new int[length];
        for (int i = 0; i < length; i++) {
            row[length - 1 - i] = (int) (value >> 8 * i & 255);
        }
        int[] all = new int[length + 2];
        all[0] = tag;
        all[1] = code;
        System.arraycopy(row, 0, all, 2, length);
        return Check.sealed(all);
    }

    int on() throws PowerGone {
        doings = 0;
        int best = -1;
        for (int s = 0; s < chip.length; s++) {
            boolean active = chip[s][0] == 63 && chip[s][3] == check(chip[s], 1, 3);
            if (active && (best < 0 || number(s) > number(best))) {
                best = s;
            }
        }
        for (int s = 0; s < chip.length; s++) {
            if (s != best && !blank(s)) {
                erase(s);
            }
        }
        if (best < 0) {
            best = next(-1);
            ready(best, 1);
            write(best, 0, 63);
        }
        inUse = best;
        return live(inUse).size();
    }

    int number(int s) {
        return chip[s][1] << 8 | chip[s][2];
    }

    private int next(int not) {
        int best = -1;
        for (int s = chip.length - 1; s >= 0; s--) {
            if (s != not && (best < 0 || erased[s] <= erased[best])) {
                best = s;
            }
        }
        return best;
    }

    private void ready(int s, int number) throws PowerGone {
        write(s, 1, number >> 8);
        write(s, 2, number & 255);
        write(s, 3, ((number >> 8) + (number & 255) + 85) % 251);
        write(s, 0, 127);
    }

    /** The ENTRIES of a SECTOR; a place is added behind: where they end (-1 - place: LOST from there on). */
    List<Entry> read(int s, int[] end) {
        List<Entry> found = new ArrayList<>();
        int[] row = chip[s];
        int p = 4;
        while (true) {
            boolean rest = false;
            for (int i = p; i < row.length; i++) {
                rest |= row[i] != 255;
            }
            if (!rest) {
                end[0] = p;
                return found;
            }
            int kind = -1;
            int size = 0;
            int checked = 0;
            if (p + 1 < row.length) {
                int a = row[p];
                int b = row[p + 1];
                if (a < 32 && (b >= 16 && b <= 20 || b >= 48 && b <= 52)) {
                    kind = b < 32 ? 0 : 2;
                    size = 3 + b % 16;
                    checked = size - 1;
                } else if (a >= 32 && a < 48 && b == 43) {
                    kind = 1;
                    size = 14;
                    checked = 5;
                } else if (a == 63 && b == 65) {
                    kind = 3;
                    size = 4;
                    checked = 3;
                }
            }
            if (kind < 0 || p + size > row.length) {
                end[0] = -1 - p;
                return found;
            }
            found.add(new Entry(p, row[p], kind, size, row[p + checked] != check(row, p, p + checked)));
            p += size;
        }
    }

    /** Marks as entry() tells them. */
    int[] marks(int s, List<Entry> all) {
        int[] marks = new int[all.size()];
        for (int i = 0; i < marks.length; i++) {
            Entry e = all.get(i);
            marks[i] = e.bad ? 2 : e.kind >= 2 ? 3 : 1;
        }
        for (int i = 0; i < marks.length; i++) {
            Entry e = all.get(i);
            int parts = e.kind == 3 ? chip[s][e.place + 2] : 0;
            if (e.bad || parts < 1 || parts > 8 || parts > i) {
                continue;
            }
            boolean fine = true;
            for (Entry part : all.subList(i - parts, i)) {
                fine &= part.kind == 2 && !part.bad;
            }
            if (fine) {
                Arrays.fill(marks, i - parts, i, 1);
                marks[i] = 0;
            }
        }
        for (int tag = 0; tag < 48; tag++) {
            for (int i = marks.length - 1; i >= 0; i--) {
                if (all.get(i).tag == tag && marks[i] == 1) {
                    marks[i] = 0;
                    break;
                }
            }
        }
        return marks;
    }

    long value(int s, Entry e) {
        if (e.size == 3) {
            return -4;
        }
        int n = e.kind == 1 ? 3 : e.size - 3;
        long v = 0;
        for (int i = 0; i < n; i++) {
            v = v << 8 | chip[s][e.place + 2 + i];
        }
        for (int i = 6; e.kind == 1 && i < 14; i++) {
            v += Integer.bitCount(255 & ~chip[s][e.place + i]);
        }
        return v;
    }

    /** The NEWEST of each TAG that has a value. */
    TreeMap<Integer, Entry> live(int s) {
        List<Entry> all = read(s, new int[1]);
        int[] marks = marks(s, all);
        TreeMap<Integer, Entry> live = new TreeMap<>();
        for (int i = 0; i < marks.length; i++) {
            Entry e = all.get(i);
            if (marks[i] == 0 && e.kind != 3 && e.size > 3) {
                live.put(e.tag, e);
            }
        }
        return live;
    }

    int free(int s) {
        int[] end = new int[1];
        read(s, end);
        return end[0] < 0 ? 0 : chip[s].length - end[0];
    }

    int after() {
        return chip[0].length - 4 - live(inUse).values().stream().mapToInt(Entry::size).sum();
    }

    int hand() throws PowerGone {
        doings = 0;
        handover();
        return doings;
    }

    private void handover() throws PowerGone {
        int s = next(inUse);
        if (!blank(s)) {
            erase(s);
        }
        ready(s, number(inUse) + 1 & 65535);
        int p = 4;
        for (Entry e : live(inUse).values()) {
            if (e.kind == 1) {
                write(s, p, setting(e.tag, 43, value(inUse, e), 3));
                p += 14;
            } else {
                p = write(s, p, setting(e.tag, 16 + e.size - 3, value(inUse, e), e.size - 3));
            }
        }
        write(s, 0, 63);
        erase(inUse);
        inUse = s;
        handovers++;
    }

    /** Where something of so many bytes goes; -2: no ROOM. */
    private int room(int bytes) throws PowerGone {
        if (free(inUse) < bytes) {
            if (after() < bytes) {
                return -2;
            }
            handover();
        }
        return chip[inUse].length - free(inUse);
    }

    int set(int tag, int value, int length) throws PowerGone {
        if (inUse < 0 || tag < 0 || tag > 31 || length < 1 || length > 4) {
            return -1;
        }
        return told(tag, value, length);
    }

    int drop(int tag) throws PowerGone {
        if (inUse < 0 || tag < 0 || tag > 31) {
            return -1;
        }
        boolean there = change != null && change.containsKey(tag)
            ? change.get(tag).length > 0 : live(inUse).containsKey(tag);
        return there ? told(tag, 0, 0) : -1;
    }

    private int told(int tag, int value, int length) throws PowerGone {
        if (change != null) {
            if (!change.containsKey(tag) && change.size() == 8) {
                return -1;
            }
            change.put(tag, new Told(value, length));
            return 0;
        }
        doings = 0;
        int p = room(3 + length);
        if (p < 0) {
            return -2;
        }
        write(inUse, p, setting(tag, 16 + length, value, length));
        return doings;
    }

    int bump(int tag) throws PowerGone {
        if (inUse < 0 || change != null || tag < 32 || tag > 47) {
            return -1;
        }
        Entry e = live(inUse).get(tag);
        long v = e == null ? 0 : value(inUse, e);
        if (v + 1 > 16777215) {
            return -1;
        }
        for (int i = 6; e != null && i < 14; i++) {
            int b = chip[inUse][e.place + i];
            if (b != 0) {
                write(inUse, e.place + i, b - Integer.highestOneBit(b));
                return (int) v + 1;
            }
        }
        int p = room(14);
        if (p < 0) {
            return -2;
        }
        write(inUse, p, setting(tag, 43, v + 1, 3));
        return (int) v + 1;
    }

    boolean begin() {
        if (inUse < 0 || change != null) {
            return false;
        }
        change = new LinkedHashMap<>();
        return true;
    }

    int commit() throws PowerGone {
        if (change == null || change.isEmpty()) {
            change = null;
            return -1;
        }
        doings = 0;
        int p = room(4 + change.values().stream().mapToInt(t -> 3 + t.length).sum());
        if (p < 0) {
            return -2;
        }
        for (Map.Entry<Integer, Told> t : change.entrySet()) {
            p = write(inUse, p, setting(t.getKey(), 48 + t.getValue().length, t.getValue().value, t.getValue().length));
        }
        write(inUse, p, Check.sealed(63, 65, change.size()));
        change = null;
        return doings;
    }
}
