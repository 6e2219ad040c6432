import java.util.ArrayList;
import java.util.List;
import java.util.NoSuchElementException;
import java.util.Random;

/** Random runs: the class and the Model are told the same calls; behind each of them they are asked the same. */
public final class ReplayTest {
    private static final int RUNS = 1500;
    private static final int CALLS = 120;
    private static final int[] ODD = {Integer.MIN_VALUE, -5, -2, -1, 0, 1, 2, 3, 4, 5, 6, 7, 8, 31, 32, 47, 48, 63, 64,
        127, 128, 255, 256, 999, 1000, 1001, 9999, 10000, Integer.MAX_VALUE};

    private final Random dice;
    private final String name;
    private SettingStore x = new SettingStore();
    private Model m = new Model(3, 64);
    private final List<String> said = new ArrayList<>();

    private ReplayTest(int seed) {
        dice = new Random(seed);
        name = "run " + seed;
    }

    public static void main(String[] args) {
        for (int seed = 0; seed < RUNS; seed++) {
            new ReplayTest(seed).run();
        }
        for (int seed = 0; seed < 300; seed++) {
            new ReplayTest(seed).nonsense();
        }
        Check.finish("ReplayTest");
    }

    private void run() {
        int s = 2 + dice.nextInt(5);
        int b = dice.nextInt(3) == 0 ? 32 + dice.nextInt(97) : 32 + dice.nextInt(20);
        if (dice.nextInt(8) != 0) {
            x.chip(s, b);
            m = new Model(s, b);
        }
        for (int i = 0; i < CALLS; i++) {
            call();
            if (i % 4 == 0) {
                compare();
            }
        }
    }

    private void due(String call, long got, long want) {
        Check.due(name + " of " + said.size() + " calls, " + call, got, want);
    }

    /** What the Model answers: -3 where POWER goes in it. */
    private interface Asked {
        long ask() throws Model.PowerGone;
    }

    private static long answer(Asked asked) {
        try {
            return asked.ask();
        } catch (Model.PowerGone e) {
            return -3;
        }
    }

    private void call() {
        int tag = dice.nextInt(3) == 0 ? dice.nextInt(32) : dice.nextInt(4);
        int value = dice.nextInt();
        int length = 1 + dice.nextInt(4);
        int counter = 32 + (dice.nextInt(4) == 0 ? dice.nextInt(16) : dice.nextInt(2));
        switch (m.inUse < 0 ? 20 + dice.nextInt(4) : dice.nextInt(20)) {
            case 0, 1, 2, 3, 4 -> said("set", x.set(tag, value, length), answer(() -> m.set(tag, value, length)));
            case 5, 6 -> said("drop", x.drop(tag), answer(() -> m.drop(tag)));
            case 7, 8, 9 -> bumps(counter);
            case 10, 11 -> said("begin", x.begin() ? 1 : 0, m.begin() ? 1 : 0);
            case 12, 13 -> said("commit", x.commit(), answer(m::commit));
            case 14 -> abort();
            case 15 -> said("hand", x.hand(), answer(m::hand));
            case 16, 17, 21 -> power();
            case 18 -> off();
            case 19 -> said("on", x.on(), -1);
            case 20 -> said("on", x.on(), answer(m::on));
            case 22 -> rot();
            default -> forge();
        }
    }

    private void said(String call, long got, long want) {
        said.add(call);
        due(call, got, want);
    }

    private void bumps(int counter) {
        int times = dice.nextInt(10) == 0 ? 70 : 1 + dice.nextInt(3);
        for (int i = 0; i < times; i++) {
            said("bump", x.bump(counter), answer(() -> m.bump(counter)));
        }
    }

    private void abort() {
        long want = m.change == null ? -1 : m.change.size();
        m.change = null;
        said("abort", x.abort(), want);
    }

    private void power() {
        int n = dice.nextInt(3) == 0 ? 0 : 1 + dice.nextInt(40);
        m.powerIn = n;
        m.mask = dice.nextInt(3) == 0 ? 255 * dice.nextInt(2) : dice.nextInt(256);
        said("power", x.power(n, m.mask) ? 1 : 0, 1);
    }

    private void off() {
        m.inUse = -1;
        m.change = null;
        said("off", x.off() ? 1 : 0, 1);
    }

    private void rot() {
        int s = dice.nextInt(m.chip.length);
        int used = dice.nextInt(2) == 0 ? 24 : m.chip[s].length;
        int p = dice.nextInt(used);
        int v = 255 & ~(1 << dice.nextInt(8));
        m.chip[s][p] &= v;
        said("rot", x.rot(s, p, v), m.chip[s][p]);
    }

    /** A whole HEAD or ENTRY by rot, where the SECTOR's FREE bytes begin. */
    private void forge() {
        int s = dice.nextInt(m.chip.length);
        int[] row;
        int p = m.chip[s].length - m.free(s);
        switch (dice.nextInt(5)) {
            case 0 -> {
                int low = dice.nextInt(4) == 0 ? 255 : dice.nextInt(9);
                int high = low == 255 ? 255 : 0;
                row = new int[] {63, high, low, (high + low + 85) % 251};
                p = 0;
            }
            case 1 -> row = Check.sealed(32 + dice.nextInt(2), 43, 255, 255, 190 + dice.nextInt(66));
            case 2 -> row = Check.sealed(63, 65, dice.nextInt(4));
            case 3 -> row = Check.sealed(dice.nextInt(4), 49, dice.nextInt(256));
            default -> row = Check.sealed(dice.nextInt(34), 15 + dice.nextInt(7), dice.nextInt(256));
        }
        for (int v : row) {
            if (p < m.chip[s].length) {
                m.chip[s][p] &= v;
                said("rot", x.rot(s, p, v), m.chip[s][p]);
            }
            p++;
        }
    }

    private void compare() {
        int size = m.chip[0].length;
        long[] counts = {m.chip.length, size, m.inUse < 0 ? 0 : 1, m.inUse, m.change == null ? -1 : m.change.size(),
            m.powerIn, m.went, m.handovers};
        for (int what = 0; what < counts.length; what++) {
            due("count(" + what + ")", x.count(what), counts[what]);
        }
        int most = 0;
        int fewest = Integer.MAX_VALUE;
        int all = 0;
        for (int s = 0; s < m.chip.length; s++) {
            compareSector(s);
            most = Math.max(most, m.erased[s]);
            fewest = Math.min(fewest, m.erased[s]);
            all += m.erased[s];
        }
        due("wear(0)", x.wear(0), most);
        due("wear(1)", x.wear(1), fewest);
        due("wear(2)", x.wear(2), all);
        due("wear(3)", x.wear(3), m.writes);
        float mean = (float) all / (float) m.chip.length;
        due("wear(4)", x.wear(4), all == 0 ? 0 : Float.floatToIntBits((float) most / mean));
        if (m.inUse >= 0) {
            compareValues();
            compareWhatWouldBe();
        }
    }

    private void compareSector(int s) {
        for (int p = 0; p < m.chip[s].length; p++) {
            due("at(" + s + ", " + p + ")", x.at(s, p), m.chip[s][p]);
        }
        long[] sector = {m.chip[s][0], m.number(s), m.erased[s], m.blank(s) ? 1 : 0, m.inUse == s ? 1 : 0};
        for (int what = 0; what < sector.length; what++) {
            due("sector(" + s + ", " + what + ")", x.sector(s, what), sector[what]);
        }
        int[] end = new int[1];
        List<Model.Entry> all = m.read(s, end);
        int[] marks = m.marks(s, all);
        due("entry(" + s + ", -1, 0)", x.entry(s, -1, 0), all.size());
        int bytes = 0;
        for (int i = 0; i < all.size(); i++) {
            Model.Entry e = all.get(i);
            long[] entry = {e.place(), e.tag(), e.kind(), e.size(), marks[i]};
            for (int what = 0; what < entry.length; what++) {
                due("entry(" + s + ", " + i + ", " + what + ")", x.entry(s, i, what), entry[what]);
            }
            bytes += e.size();
        }
        int live = m.live(s).values().stream().mapToInt(Model.Entry::size).sum();
        int size = m.chip[s].length;
        long[] space = {end[0] < 0 ? size : end[0], end[0] < 0 ? size + 1 + end[0] : 0, live, bytes - live};
        for (int what = 0; what < space.length; what++) {
            due("space(" + s + ", " + what + ")", x.space(s, what), space[what]);
        }
    }

    private void compareValues() {
        var live = m.live(m.inUse);
        List<Model.Entry> all = m.read(m.inUse, new int[1]);
        int[] marks = m.marks(m.inUse, all);
        long tags = 0;
        for (int tag = 0; tag < 48; tag++) {
            Model.Entry e = live.get(tag);
            tags |= e == null ? 0 : 1L << tag;
            due("get(" + tag + ")", x.get(tag), e == null ? -4 : m.value(m.inUse, e));
            due("length(" + tag + ")", x.length(tag), e == null ? 0 : e.kind() == 1 ? 3 : e.size() - 3);
            int told = 0;
            for (int i = all.size() - 1; i >= 0; i--) {
                if (all.get(i).tag() == tag && marks[i] < 2) {
                    due("history(" + tag + ", " + told + ")", x.history(tag, told), m.value(m.inUse, all.get(i)));
                    told++;
                }
            }
            due("history(" + tag + ", " + told + ")", x.history(tag, told), -5);
            due("history(" + tag + ", -1)", x.history(tag, -1), told);
            int below = -2 - dice.nextInt(9);
            due("history(" + tag + ", " + below + ")", x.history(tag, below), -1);
        }
        due("tags()", x.tags(), tags);
    }

    private void compareWhatWouldBe() {
        due("after()", x.after(), m.after());
        for (int length = 1; length <= 4; length++) {
            due("until(" + length + ")", x.until(length), m.free(m.inUse) / (3 + length));
            int bytes = length;
            long cost = m.change != null ? -1 : answer(() -> m.copy().set(0, 0, bytes));
            due("costs(" + length + ")", x.costs(length), cost);
        }
        int n = dice.nextInt(30);
        Model worn = m.copy();
        for (int i = 0; i < n; i++) {
            answer(worn::hand);
        }
        due("wears(" + n + ", 2)", x.wears(n, 2), worn.inUse);
        int most = java.util.Arrays.stream(worn.erased).max().orElse(-9);
        int fewest = java.util.Arrays.stream(worn.erased).min().orElse(-9);
        due("wears(" + n + ", 0)", x.wears(n, 0), most);
        due("wears(" + n + ", 1)", x.wears(n, 1), fewest);
        for (int i = 0; i < 8; i++) {
            compareTorn(dice.nextInt(5), dice.nextInt(), 1 + dice.nextInt(4), dice.nextInt(4));
        }
    }

    private void compareTorn(int tag, int value, int length, int what) {
        int cost = x.costs(length);
        int n = dice.nextInt(Math.max(1, cost) + 2);
        int mask = dice.nextInt(256);
        long want = -1;
        if (n >= 1 && n <= cost) {
            Model torn = m.copy();
            torn.powerIn = n;
            torn.mask = mask;
            due("POWER goes in it", answer(() -> torn.set(tag, value, length)), -3);
            long valued = answer(torn::on);
            Model.Entry e = torn.live(torn.inUse).get(tag);
            long[] answers = {e == null ? -4 : torn.value(torn.inUse, e), torn.free(torn.inUse), torn.doings, valued};
            want = answers[what];
        }
        String call = "torn(" + tag + ", " + value + ", " + length + ", " + n + ", " + mask + ", " + what + ")";
        due(call, x.torn(tag, value, length, n, mask, what), want);
    }

    private int odd() {
        return ODD[dice.nextInt(ODD.length)];
    }

    /** No call but at() ever throws, whatever it is asked. */
    private void nonsense() {
        for (int i = 0; i < 512; i++) {
            int call = dice.nextInt(28);
            try {
                any(call);
            } catch (NoSuchElementException e) {
                due("throws: call " + call, call, 0);
            } catch (RuntimeException e) {
                due("threw " + e + " in call", call, -1);
            }
        }
        due("S is kept", x.count(0) >= 2 && x.count(0) <= 6 ? 1 : 0, 1);
    }

    private void any(int call) {
        switch (call) {
            case 0 -> x.at(odd(), odd());
            case 1 -> x.chip(odd(), odd());
            case 2, 3, 4 -> x.on();
            case 5 -> x.off();
            case 6 -> x.power(odd(), odd());
            case 7 -> x.rot(odd(), odd(), odd());
            case 8, 9 -> x.set(odd(), odd(), odd());
            case 10 -> x.drop(odd());
            case 11 -> x.bump(odd());
            case 12 -> x.begin();
            case 13 -> x.commit();
            case 14 -> x.abort();
            case 15 -> x.get(odd());
            case 16 -> x.length(odd());
            case 17 -> x.hand();
            case 18 -> x.sector(odd(), odd());
            case 19 -> x.entry(odd(), odd(), odd());
            case 20 -> x.space(odd(), odd());
            case 21 -> x.until(odd());
            case 22 -> x.costs(odd());
            case 23 -> x.torn(odd(), odd(), odd(), odd(), odd(), odd());
            case 24 -> x.history(odd(), odd());
            case 25 -> x.wears(odd(), odd());
            case 26 -> x.wear(odd());
            default -> x.count(odd());
        }
    }
}
