import java.util.NoSuchElementException;

/** What all tests of the project share: they print every answer that is not as due and end with 1 if there was one. */
final class Check {
    private static int wrong = 0;
    private static int asked = 0;

    private Check() {
    }

    static void due(String call, long got, long want) {
        asked++;
        if (got != want) {
            wrong++;
            System.out.println(call + " answered " + got + ", due is " + want);
        }
    }

    static void due(String call, boolean got, boolean want) {
        due(call, got ? 1L : 0L, want ? 1L : 0L);
    }

    static void noSuchByte(SettingStore x, int sector, int place) {
        long thrown = 0;
        try {
            x.at(sector, place);
        } catch (NoSuchElementException e) {
            thrown = 1;
        }
        due("at(" + sector + ", " + place + ") throws", thrown, 1);
    }

    /** The bytes of a SECTOR from a place on. */
    static void bytes(SettingStore x, int sector, int from, int... want) {
        for (int i = 0; i < want.length; i++) {
            due("at(" + sector + ", " + (from + i) + ")", x.at(sector, from + i), want[i]);
        }
    }

    /** Puts bytes on blank places by letting their bits rot (while OFF). */
    static void burn(SettingStore x, int sector, int from, int... bytes) {
        for (int i = 0; i < bytes.length; i++) {
            due("rot(" + sector + ", " + (from + i) + ", " + bytes[i] + ")", x.rot(sector, from + i, bytes[i]), bytes[i]);
        }
    }

    static void burnHead(SettingStore x, int sector, int state, int number) {
        int high = number / 256;
        int low = number % 256;
        burn(x, sector, 0, state, high, low, (high + low + 85) % 251);
    }

    /** A row of bytes with its CHECK behind it. */
    static int[] sealed(int... bytes) {
        int[] row = new int[bytes.length + 1];
        int sum = 85;
        for (int i = 0; i < bytes.length; i++) {
            row[i] = bytes[i];
            sum += bytes[i];
        }
        row[bytes.length] = sum % 251;
        return row;
    }

    static SettingStore made(int s, int b) {
        SettingStore x = new SettingStore();
        due("chip(" + s + ", " + b + ")", x.chip(s, b), true);
        return x;
    }

    static SettingStore running(int s, int b) {
        SettingStore x = made(s, b);
        due("on()", x.on(), 0);
        return x;
    }

    static void finish(String name) {
        System.out.println(name + ": " + asked + " answers, " + wrong + " not as due");
        if (wrong != 0 || asked == 0) {
            System.exit(1);
        }
    }
}
