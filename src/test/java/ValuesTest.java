/** Promises 13 to 15: get, length, hand. */
public final class ValuesTest {
    public static void main(String[] args) {
        getAndLength();
        hand();
        handAroundTheSectors();
        handOfNumbers();
        handTornAnywhere();
        Check.finish("ValuesTest");
    }

    private static void getAndLength() {
        SettingStore x = new SettingStore();
        Check.due("get while OFF", x.get(0), -1);
        Check.due("length while OFF", x.length(0), -1);
        x.on();
        int[] others = {-1, 48, 63, Integer.MIN_VALUE, Integer.MAX_VALUE};
        for (int tag : others) {
            Check.due("get(" + tag + ")", x.get(tag), -1);
            Check.due("length(" + tag + ")", x.length(tag), -1);
        }
        for (int tag = 0; tag < 48; tag++) {
            Check.due("get(" + tag + ")", x.get(tag), -4);
            Check.due("length(" + tag + ")", x.length(tag), 0);
        }
        for (int length = 1; length <= 4; length++) {
            x.set(length, -1, length);
            Check.due("get of all bits", x.get(length), (1L << (8 * length)) - 1);
            Check.due("length", x.length(length), length);
        }
        x.set(5, 0, 2);
        Check.due("get of 0", x.get(5), 0);
        Check.due("length of 0", x.length(5), 2);
        x.set(6, Integer.MIN_VALUE, 4);
        Check.due("get from 0 on", x.get(6), 2147483648L);
        x.bump(40);
        Check.due("length of a COUNTER", x.length(40), 3);
        x.drop(5);
        Check.due("get of a dropped one", x.get(5), -4);
        Check.due("length of a dropped one", x.length(5), 0);
        x.begin();
        x.set(7, 1, 1);
        x.drop(1);
        Check.due("not of a CHANGE", x.get(7), -4);
        Check.due("not of a CHANGE", x.length(7), 0);
        Check.due("not of a CHANGE", x.get(1), 255);
        Check.due("not of a CHANGE", x.length(1), 1);
        x.off();
        Check.due("get while OFF", x.get(6), -1);
        Check.due("length while OFF", x.length(6), -1);
    }

    private static void hand() {
        SettingStore x = new SettingStore();
        Check.due("hand while OFF", x.hand(), -1);
        x.on();
        Check.due("hand of nothing", x.hand(), 6);
        Check.bytes(x, 1, 0, 63, 0, 2, 87, 255);
        Check.due("the old one is ERASED", x.sector(0, 3), 1);
        x.set(9, 0x0102, 2);
        x.set(4, 7, 1);
        x.bump(33);
        x.bump(33);
        x.set(6, 1, 1);
        x.drop(6);
        x.begin();
        x.set(2, 8, 1);
        x.commit();
        Check.due("hand", x.hand(), 4 + 4 + 4 + 5 + 6 + 2);
        Check.due("in use", x.count(3), 2);
        Check.bytes(x, 2, 4, Check.sealed(2, 17, 8));
        Check.bytes(x, 2, 8, Check.sealed(4, 17, 7));
        Check.bytes(x, 2, 12, Check.sealed(9, 18, 1, 2));
        Check.bytes(x, 2, 17, Check.sealed(33, 43, 0, 0, 2));
        Check.bytes(x, 2, 23, 255, 255, 255, 255, 255, 255, 255, 255, 255);
        Check.due("ENTRIES", x.entry(2, -1, 0), 4);
        Check.due("HANDOVERS", x.count(7), 2);
    }

    private static void handAroundTheSectors() {
        SettingStore x = Check.running(4, 32);
        x.off();
        x.rot(1, 9, 0);
        x.on();
        int[] order = {2, 3, 0, 1, 2, 3, 0, 1};
        for (int sector : order) {
            Check.due("hand", x.hand(), 6);
            Check.due("the least ERASED is in use", x.count(3), sector);
        }
        Check.due("NUMBER", x.sector(1, 1), 9);
    }

    private static void handOfNumbers() {
        SettingStore x = Check.made(2, 32);
        Check.burnHead(x, 0, 63, 255);
        x.on();
        x.hand();
        Check.bytes(x, 1, 0, 63, 1, 0, 86);
        SettingStore y = Check.made(2, 32);
        Check.burnHead(y, 1, 63, 65535);
        Check.due("on", y.on(), 0);
        Check.due("hand", y.hand(), 6);
        Check.bytes(y, 0, 0, 63, 0, 0, 85);
        Check.due("NUMBER", y.sector(0, 1), 0);
    }

    private static void handTornAnywhere() {
        for (int n = 1; n <= 16; n++) {
            SettingStore x = Check.running(3, 32);
            x.set(5, 6, 1);
            x.bump(32);
            x.power(n, 0);
            Check.due("hand torn at " + n, x.hand(), -3);
            Check.due("OFF", x.count(2), 0);
            Check.due("on()", x.on(), 2);
            Check.due("nothing is lost", x.get(5) * 10 + x.get(32), 61);
            Check.due("in use", x.count(3), n <= 15 ? 0 : 1);
            Check.due("HANDOVERS", x.count(7), 0);
        }
    }
}
