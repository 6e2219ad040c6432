import java.util.Arrays;
import java.util.NoSuchElementException;
import java.util.function.LongSupplier;

/** What all tests of the project share: they print every answer that is not as due and end with 1 if there was one. */
final class Check {
    private static int wrong = 0;
    private static int asked = 0;
    private static String sentence = "";

    private Check() {
    }

    /** The words of the document that the answers from here on are due by. */
    static void sentence(String words) {
        sentence = "\"" + words + "\": ";
    }

    static void due(String call, long got, long want) {
        asked++;
        if (got != want) {
            wrong++;
            System.out.println(sentence + call + " answered " + got + ", due is " + want);
        }
    }

    static void due(String call, boolean got, boolean want) {
        due(call, got ? 1L : 0L, want ? 1L : 0L);
    }

    static void noSuchByte(SettingStore x, int sector, int place) {
        long thrown = 0;
        try {
            x.at(sector, place);
        } catch (NoSuchElementException e) {
            thrown = 1;
        }
        due("at(" + sector + ", " + place + ") throws", thrown, 1);
    }

    /** The bytes of a SECTOR from a place on. */
    static void bytes(SettingStore x, int sector, int from, int... want) {
        for (int i = 0; i < want.length; i++) {
            due("at(" + sector + ", " + (from + i) + ")", x.at(sector, from + i), want[i]);
        }
    }

    /** Puts bytes on blank places by letting their bits rot (while OFF). */
    static void burn(SettingStore x, int sector, int from, int... bytes) {
        for (int i = 0; i < bytes.length; i++) {
            due("rot(" + sector + ", " + (from + i) + ", " + bytes[i] + ")", x.rot(sector, from + i, bytes[i]), bytes[i]);
        }
    }

    static void burnHead(SettingStore x, int sector, int state, int number) {
        int high = number / 256;
        int low = number % 256;
        burn(x, sector, 0, state, high, low, (high + low + 85) % 251);
    }

    /** A row of bytes with its CHECK behind it. */
    static int[] sealed(int... bytes) {
        int[] row = new int[bytes.length + 1];
        int sum = 85;
        for (int i = 0; i < bytes.length; i++) {
            row[i] = bytes[i];
            sum += bytes[i];
        }
        row[bytes.length] = sum % 251;
        return row;
    }

    /** All that can be told of an object while ON and OFF, to see that a refused call left it as it was. */
    static long[] all(SettingStore x) {
        int sectors = x.count(0);
        int bytes = x.count(1);
        long[] told = new long[sectors * (bytes + 2) + 13];
        int n = 0;
        for (int s = 0; s < sectors; s++) {
            for (int p = 0; p < bytes; p++) {
                told[n++] = x.at(s, p);
            }
            told[n++] = x.sector(s, 2);
            told[n++] = x.sector(s, 4);
        }
        for (int what = 0; what < 8; what++) {
            told[n++] = x.count(what);
        }
        for (int what = 0; what < 4; what++) {
            told[n++] = x.wear(what);
        }
        told[n] = x.tags();
        return told;
    }

    /** A call that is refused: what it answers, and that nothing is done by it. */
    static void refused(SettingStore x, String call, LongSupplier asks, long want) {
        long[] before = all(x);
        due(call, asks.getAsLong(), want);
        due(call + " leaves all as it was", Arrays.equals(before, all(x)), true);
    }

    /** Fills bytes with SETTINGS that have values, of TAGS from 31 downwards: none or at least 4. */
    static int burnLive(SettingStore x, int sector, int from, int bytes) {
        int place = from;
        int tag = 31;
        while (place < from + bytes) {
            int rest = from + bytes - place;
            int size = rest <= 7 ? rest : Math.min(7, rest - 4);
            burnSetting(x, sector, place, tag, 16, size);
            place += size;
            tag--;
        }
        return place;
    }

    /** Fills bytes with PARTS that are IDLE: none or at least 3. */
    static int burnDead(SettingStore x, int sector, int from, int bytes) {
        int place = from;
        while (place < from + bytes) {
            int rest = from + bytes - place;
            int size = rest <= 7 ? rest : Math.min(7, rest - 3);
            burnSetting(x, sector, place, 0, 48, size);
            place += size;
        }
        return place;
    }

    private static void burnSetting(SettingStore x, int sector, int place, int tag, int code, int size) {
        int[] row = new int[size - 1];
        Arrays.fill(row, 9);
        row[0] = tag;
        row[1] = code + size - 3;
        burn(x, sector, place, sealed(row));
    }

    /** ON, of two SECTORS, 0 in use, with so many bytes of values and, behind them, of PARTS that are IDLE. */
    static SettingStore filled(int b, int live, int dead) {
        SettingStore x = made(2, b);
        burnHead(x, 0, 63, 1);
        burnDead(x, 0, burnLive(x, 0, 4, live), dead);
        x.on();
        due("FREE of " + live + " live, " + dead + " dead", x.space(0, 0), 4 + live + dead);
        due("after() of " + live + " live", x.after(), b - 4 - live);
        return x;
    }

    static SettingStore made(int s, int b) {
        SettingStore x = new SettingStore();
        due("chip(" + s + ", " + b + ")", x.chip(s, b), true);
        return x;
    }

    static SettingStore running(int s, int b) {
        SettingStore x = made(s, b);
        due("on()", x.on(), 0);
        return x;
    }

    static void finish(String name) {
        System.out.println(name + ": " + asked + " answers, " + wrong + " not as due");
        if (wrong != 0 || asked == 0) {
            System.exit(1);
        }
    }
}
