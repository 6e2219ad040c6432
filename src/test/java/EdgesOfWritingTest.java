import java.util.function.ToIntFunction;

/** The boundary cases of Terms 3 (SWITCHED ON to REFUSED) and of promises 7 to 15, a method for each sentence. */
public final class EdgesOfWritingTest {
    private static final int[] FAR = {Integer.MIN_VALUE, -65536, -256, -2, Integer.MAX_VALUE};

    public static void main(String[] args) {
        greatestNumber();
        othersAreErased();
        noneIsActive();
        nextSector();
        madeReady();
        byteByByte();
        handoverOfNumbers();
        handoverOfNothing();
        handoverOfAll();
        handoverOfEachTag();
        handoverOfCounters();
        handoverInItsOrder();
        roomIsJustEnough();
        roomBehindHandover();
        roomIsNone();
        roomOfALostTail();
        roomOfBump();
        counterGoesUp();
        counterIsSpent();
        counterAtTheTop();
        ninthTag();
        latestAtThePlaceOfTheFirst();
        setOfOthers();
        setLowestBytes();
        setTorn();
        dropOfNone();
        dropInAChange();
        dropTorn();
        bumpOfOthers();
        bumpTorn();
        beginOfOthers();
        commitOfNone();
        commitStays();
        commitDoings();
        commitTorn();
        abortOfNone();
        getOfOthers();
        getOfFour();
        lengthOfOthers();
        handOfOthers();
        handTorn();
        manyCalls();
        Check.finish("EdgesOfWritingTest");
    }

    private static void greatestNumber() {
        Check.sentence("the one of the greatest NUMBER (of like ones the first) is in use");
        int[][] rows = {{1, 2, 3, 2}, {3, 2, 1, 0}, {5, 5, 5, 0}, {1, 5, 5, 1}, {255, 256, 1, 1}, {256, 255, 1, 0},
            {511, 512, 256, 1}, {0, 65535, 1, 1}, {65535, 0, 1, 0}, {0, 0, 0, 0}, {65280, 255, 65281, 2}};
        for (int[] row : rows) {
            SettingStore x = Check.made(3, 32);
            for (int s = 0; s < 3; s++) {
                Check.burnHead(x, s, 63, row[s]);
            }
            x.on();
            Check.due(row[0] + ", " + row[1] + ", " + row[2] + ": in use", x.count(3), row[3]);
            Check.due("two are ERASED", x.wear(2), 2);
        }
        SettingStore x = Check.made(4, 32);
        Check.burnHead(x, 0, 127, 65535);
        Check.burn(x, 1, 0, 63, 255, 255, 92);
        Check.burnHead(x, 3, 63, 0);
        x.on();
        Check.due("not a RECEIVING one, not one of a wrong CHECK", x.count(3), 3);
        Check.due("ERASED", x.sector(0, 2) * 100 + x.sector(1, 2) * 10 + x.sector(2, 2), 110);
    }

    private static void othersAreErased() {
        Check.sentence("all others of which not all bytes are 255 are ERASED, by numbers");
        for (int n = 1; n <= 4; n++) {
            SettingStore x = Check.made(6, 32);
            Check.burnHead(x, 2, 63, 1);
            for (int s : new int[] {0, 1, 4, 5}) {
                x.rot(s, 5, 0);
                x.rot(s, 31, 254);
            }
            x.power(n, 0);
            Check.due("on() torn at " + n, x.on(), -3);
            int[] order = {0, 1, 4, 5};
            for (int k = 0; k < 4; k++) {
                Check.due("at(" + order[k] + ", 5) at " + n, x.at(order[k], 5), k < n ? 255 : 0);
                Check.due("at(" + order[k] + ", 31) at " + n, x.at(order[k], 31), k < n - 1 ? 255 : 254);
            }
            Check.due("not the empty one", x.sector(3, 2), 0);
            Check.due("not the one in use", x.at(2, 0), 63);
            Check.due("on()", x.on(), 0);
            Check.due("all are 255 then", x.sector(5, 3) + x.sector(4, 3) + x.sector(1, 3) + x.sector(0, 3), 4);
        }
        SettingStore x = Check.running(6, 128);
        x.off();
        x.power(1, 0);
        Check.due("no other one: no DOING", x.on(), 0);
        Check.due("till POWER goes", x.count(5), 1);
        x.off();
        x.rot(5, 127, 254);
        Check.due("a single bit in the last byte is enough", x.on(), -3);
    }

    private static void noneIsActive() {
        Check.sentence("If there is none: .. that which was ERASED least often (of several the first) .. with NUMBER 1");
        SettingStore x = Check.made(2, 32);
        x.power(9, 0);
        x.on();
        Check.due("an empty CHIP: five DOINGS", x.count(5), 4);
        Check.due("the first", x.count(3), 0);
        Check.bytes(x, 0, 0, 63, 0, 1, 86, 255);
        SettingStore y = Check.made(3, 32);
        y.rot(0, 9, 0);
        y.rot(1, 9, 0);
        y.on();
        Check.due("the one that is not ERASED for it", y.count(3), 2);
        Check.due("NUMBER", y.sector(2, 1), 1);
        SettingStore z = Check.made(3, 32);
        for (int s = 0; s < 3; s++) {
            z.rot(s, 9, 0);
        }
        z.on();
        Check.due("all ERASED once: the first", z.count(3), 0);
        z.off();
        z.rot(0, 0, 0);
        z.on();
        Check.due("0 twice: 1", z.count(3), 1);
        Check.due("NUMBER 1 again", z.sector(1, 1), 1);
        z.off();
        z.rot(1, 3, 0);
        z.on();
        Check.due("0, 1 twice: 2", z.count(3), 2);
        z.off();
        z.rot(2, 2, 0);
        z.on();
        Check.due("all twice: 0", z.count(3), 0);
    }

    private static void nextSector() {
        Check.sentence("The NEXT SECTOR is that, but the one in use, which was ERASED least often, of several the first");
        SettingStore x = Check.made(2, 32);
        x.rot(1, 9, 0);
        x.on();
        Check.due("0 in use, ERASED never; 1 once", x.count(3) * 10 + x.sector(1, 2), 1);
        x.hand();
        Check.due("the one in use is ERASED less often", x.count(3), 1);
        SettingStore y = Check.made(6, 32);
        y.on();
        for (int want : new int[] {1, 2, 3, 4, 5, 0, 1, 2, 3, 4, 5, 0}) {
            y.hand();
            Check.due("of several the first", y.count(3), want);
        }
        SettingStore z = Check.made(4, 32);
        Check.burnHead(z, 3, 63, 1);
        z.rot(0, 9, 0);
        z.on();
        for (int want : new int[] {1, 2, 0, 1, 2, 3, 0}) {
            z.hand();
            Check.due("from the last one on, 0 ERASED once", z.count(3), want);
        }
    }

    private static void madeReady() {
        Check.sentence("MADE READY: WRITES of the two bytes of NUMBER, of their CHECK, of STATE 127, in this order");
        int[][] heads = {{255, 1, 255, 255}, {255, 1, 2, 255}, {255, 1, 2, 88}, {127, 1, 2, 88}, {63, 1, 2, 88}};
        for (int n = 1; n <= 5; n++) {
            SettingStore x = Check.made(2, 32);
            Check.burnHead(x, 0, 63, 257);
            x.on();
            x.power(n, 255);
            Check.due("hand() torn at " + n, x.hand(), -3);
            Check.bytes(x, 1, 0, heads[n - 1]);
            Check.due("the old one", x.at(0, 0), 63);
            SettingStore y = Check.made(2, 32);
            y.power(n, 255);
            Check.due("on() torn at " + n, y.on(), -3);
            int[][] first = {{255, 0, 255, 255}, {255, 0, 1, 255}, {255, 0, 1, 86}, {127, 0, 1, 86}, {63, 0, 1, 86}};
            Check.bytes(y, 0, 0, first[n - 1]);
        }
    }

    private static void byteByByte() {
        Check.sentence("An ENTRY is WRITTEN byte by byte from its first on (the eight of a COUNTER are not)");
        int[] row = Check.sealed(7, 20, 1, 2, 3, 4);
        for (int n = 1; n <= 7; n++) {
            SettingStore x = Check.running(2, 32);
            x.power(n, 255);
            Check.due("set torn at " + n, x.set(7, 0x01020304, 4), -3);
            for (int i = 0; i < 7; i++) {
                Check.due("byte " + i + " at " + n, x.at(0, 4 + i), i < n ? row[i] : 255);
            }
        }
        SettingStore x = Check.running(2, 32);
        x.power(7, 0);
        Check.due("bump", x.bump(32), 1);
        Check.due("six DOINGS", x.count(5), 1);
        for (int p = 10; p < 18; p++) {
            Check.due("at(0, " + p + ")", x.at(0, p), 255);
        }
        Check.due("the next ENTRY goes behind the eight", x.space(0, 0), 18);
    }

    private static void handoverOfNumbers() {
        Check.sentence("MADE READY with NUMBER 1 more (mod 65536)");
        int[][] rows = {{0, 1}, {254, 255}, {255, 256}, {65534, 65535}, {65535, 0}};
        for (int[] row : rows) {
            SettingStore x = Check.made(2, 32);
            Check.burnHead(x, 0, 63, row[0]);
            Check.burn(x, 0, 4, Check.sealed(1, 17, 9));
            x.on();
            Check.due("hand()", x.hand(), 10);
            Check.due("behind " + row[0], x.sector(1, 1), row[1]);
            x.off();
            Check.due("found again", x.on(), 1);
            Check.due("get", x.get(1), 9);
        }
        SettingStore x = Check.made(2, 32);
        Check.burnHead(x, 0, 63, 65535);
        Check.burn(x, 0, 4, Check.sealed(1, 17, 9));
        x.on();
        x.power(9, 255);
        Check.due("torn between STATE 63 and the ERASE", x.hand(), -3);
        Check.due("both are ACTIVE", x.sector(0, 0) * 100 + x.sector(1, 0), 6363);
        Check.due("on()", x.on(), 1);
        Check.due("65535 is greater than 0", x.count(3), 0);
        Check.due("the other is ERASED", x.sector(1, 2) * 10 + x.sector(1, 3), 11);
    }

    private static void handoverOfNothing() {
        Check.sentence("by TAGS the NEWEST of each, if that has a value, is WRITTEN there");
        SettingStore x = Check.running(2, 32);
        Check.due("hand() of none", x.hand(), 6);
        Check.due("FREE", x.space(1, 0), 4);
        SettingStore y = Check.filled(32, 0, 28);
        Check.due("hand() of IDLE ones alone", y.hand(), 6);
        Check.due("ENTRIES", y.entry(1, -1, 0), 0);
        SettingStore z = Check.made(2, 64);
        Check.burnHead(z, 0, 63, 1);
        Check.burn(z, 0, 4, Check.sealed(1, 17, 7));
        Check.burn(z, 0, 8, 1, 17, 8, 0);
        Check.burn(z, 0, 12, Check.sealed(2, 17, 9));
        Check.burn(z, 0, 16, Check.sealed(2, 16));
        z.on();
        Check.due("hand() with a BAD one, with a dropped one", z.hand(), 10);
        Check.bytes(z, 1, 4, Check.sealed(1, 17, 7));
        Check.due("ENTRIES", z.entry(1, -1, 0), 1);
    }

    private static void handoverOfAll() {
        Check.sentence("by TAGS the NEWEST of each, if that has a value, is WRITTEN there");
        SettingStore x = Check.filled(128, 124, 0);
        Check.due("hand() of a full one", x.hand(), 4 + 124 + 2);
        Check.due("FREE", x.space(1, 0), 128);
        Check.due("all NEWEST", x.space(1, 2), 124);
        SettingStore y = Check.made(2, 64);
        Check.burnHead(y, 0, 63, 1);
        Check.burn(y, 0, 4, Check.sealed(47, 43, 0, 0, 5));
        Check.burn(y, 0, 18, Check.sealed(32, 43, 0, 0, 6));
        Check.burn(y, 0, 32, Check.sealed(31, 20, 1, 2, 3, 4));
        Check.burn(y, 0, 39, Check.sealed(0, 17, 0));
        y.on();
        Check.due("hand()", y.hand(), 4 + 4 + 7 + 6 + 6 + 2);
        Check.bytes(y, 1, 4, Check.sealed(0, 17, 0));
        Check.bytes(y, 1, 8, Check.sealed(31, 20, 1, 2, 3, 4));
        Check.bytes(y, 1, 15, Check.sealed(32, 43, 0, 0, 6));
        Check.bytes(y, 1, 29, Check.sealed(47, 43, 0, 0, 5));
        Check.due("FREE behind the eight of the last", y.space(1, 0), 43);
    }

    private static void handoverOfEachTag() {
        Check.sentence("by TAGS the NEWEST of each, if that has a value, is WRITTEN there as a SETTING, a COUNTER");
        for (int tag = 0; tag < 48; tag++) {
            SettingStore x = Check.made(2, 32);
            Check.burnHead(x, 0, 63, 1);
            int[] row = tag < 32 ? Check.sealed(tag, 17, 5) : Check.sealed(tag, 43, 0, 0, 5);
            int size = tag < 32 ? 4 : 14;
            Check.burn(x, 0, 4, row);
            Check.burn(x, 0, 4 + size, 99);
            x.on();
            Check.due("bytes of " + tag, x.space(0, 2), size);
            Check.due("after()", x.after(), 28 - size);
            Check.due("costs(1)", x.costs(1), 4 + row.length + 2 + 4);
            Check.due("hand()", x.hand(), 4 + row.length + 2);
            Check.bytes(x, 1, 4, row);
            Check.due("FREE", x.space(1, 0), 4 + size);
            Check.due("get", x.get(tag), 5);
        }
    }

    private static void handoverOfCounters() {
        Check.sentence("(its value as BASE: the lowest three bytes of it, should it be above 16777215 by bits that rot)");
        int[][] rows = {{254, 0b01111111, 16777215, 16777215}, {255, 255, 16777215, 16777215},
            {255, 0b01111111, 16777216, 0}, {255, 0b00111111, 16777217, 1}, {255, 0, 16777223, 7}};
        for (int[] row : rows) {
            SettingStore x = Check.made(2, 32);
            Check.burnHead(x, 0, 63, 1);
            Check.burn(x, 0, 4, Check.sealed(32, 43, 255, 255, row[0]));
            x.rot(0, 10, row[1]);
            x.on();
            Check.due("get", x.get(32), row[2]);
            Check.due("hand()", x.hand(), 12);
            Check.bytes(x, 1, 4, Check.sealed(32, 43, row[3] >> 16, row[3] >> 8 & 255, row[3] & 255));
            Check.due("get", x.get(32), row[3]);
            Check.due("a value of 0 is one, too", x.tags(), 1L << 32);
            Check.due("bump", x.bump(32), row[3] == 16777215 ? -1 : row[3] + 1);
        }
    }

    private static void handoverInItsOrder() {
        Check.sentence("HANDOVER: .. STATE 63 is WRITTEN; the old one is ERASED");
        SettingStore x = Check.running(2, 64);
        x.set(1, 1, 1);
        x.power(8, 255);
        Check.due("torn at the last byte of the ENTRY", x.hand(), -3);
        Check.due("STATE of the new one", x.sector(1, 0), 127);
        Check.due("on()", x.on(), 1);
        Check.due("the old one is in use", x.count(3), 0);
        x.power(9, 255);
        Check.due("torn at STATE 63", x.hand(), -3);
        Check.due("STATE of both", x.sector(0, 0) * 100 + x.sector(1, 0), 6363);
        Check.due("on()", x.on(), 1);
        Check.due("the new one is in use", x.count(3), 1);
        Check.due("HANDOVERS at their end", x.count(7), 0);
        x.power(10, 255);
        Check.due("torn at the ERASE", x.hand(), -3);
        Check.due("HANDOVERS at their end", x.count(7), 0);
        Check.due("on()", x.on(), 1);
        Check.due("the new one is in use", x.count(3), 0);
        Check.due("hand()", x.hand(), 10);
        Check.due("HANDOVERS at their end", x.count(7), 1);
    }

    /** What WRITES so many bytes, in each way that there is. */
    private static int written(SettingStore x, int bytes) {
        return bytes == 3 ? x.drop(31) : x.set(1, 0, bytes - 3);
    }

    private static void roomIsJustEnough() {
        Check.sentence("ROOM: when something is to be WRITTEN for which FREE bytes are too few");
        for (int bytes = 3; bytes <= 7; bytes++) {
            for (int b : new int[] {32, 128}) {
                SettingStore x = Check.filled(b, 4, b - 8 - bytes);
                Check.due(bytes + " into as many FREE ones", written(x, bytes), bytes);
                Check.due("no HANDOVER", x.count(7), 0);
                Check.due("full", x.space(0, 0), b);
                SettingStore y = Check.filled(b, 4, b - 8 - bytes + 1);
                Check.due(bytes + " into one FREE byte fewer", written(y, bytes), 4 + 4 + 2 + bytes);
                Check.due("HANDOVER", y.count(7), 1);
            }
        }
    }

    private static void roomBehindHandover() {
        Check.sentence("if HANDOVER would leave enough of them, there is one ahead of it");
        for (int bytes = 3; bytes <= 7; bytes++) {
            for (int b : new int[] {32, 128}) {
                int live = b - 4 - bytes;
                SettingStore x = Check.made(2, b);
                Check.burnHead(x, 0, 63, 1);
                Check.burn(x, 0, Check.burnLive(x, 0, 4, live), 99);
                x.on();
                Check.due("after()", x.after(), bytes);
                Check.due(bytes + ", just enough behind HANDOVER", written(x, bytes), 4 + live + 2 + bytes);
                Check.due("HANDOVER", x.count(7), 1);
                Check.due("full", x.space(1, 0), b);
            }
        }
    }

    private static void roomIsNone() {
        Check.sentence("else it is refused, nothing is done");
        for (int bytes = 3; bytes <= 7; bytes++) {
            int n = bytes;
            for (int b : new int[] {32, 128}) {
                SettingStore x = Check.filled(b, b - 4 - bytes + 1, 0);
                x.power(1, 0);
                Check.refused(x, bytes + ", one byte too few behind HANDOVER", () -> written(x, n), -2);
                Check.due("no HANDOVER, no DOING", x.count(5), 1);
                SettingStore y = Check.filled(b, b - 4, 0);
                Check.refused(y, bytes + " into a full one", () -> written(y, n), -2);
            }
        }
    }

    private static void roomOfALostTail() {
        Check.sentence("else the TAIL is LOST (there are no FREE ones)");
        SettingStore x = Check.made(2, 32);
        Check.burnHead(x, 0, 63, 1);
        Check.burn(x, 0, 31, 254);
        x.on();
        Check.due("until(1)", x.until(1), 0);
        Check.due("costs(1)", x.costs(1), 6 + 4);
        Check.due("set", x.set(1, 1, 1), 6 + 4);
        Check.due("FREE", x.space(1, 0), 8);
    }

    private static void roomOfBump() {
        Check.sentence("ROOM: .. for which FREE bytes are too few (a COUNTER has 14 bytes)");
        SettingStore x = Check.filled(64, 4, 42);
        Check.due("14 FREE ones", x.bump(32), 1);
        Check.due("no HANDOVER", x.count(7), 0);
        Check.due("full", x.space(0, 0), 64);
        SettingStore y = Check.filled(64, 4, 43);
        Check.due("13 FREE ones", y.bump(32), 1);
        Check.due("HANDOVER", y.count(7), 1);
        SettingStore z = Check.filled(64, 46, 3);
        Check.due("14 behind HANDOVER", z.bump(32), 1);
        Check.due("full", z.space(1, 0), 64);
        SettingStore w = Check.filled(64, 47, 0);
        Check.refused(w, "bump, 13 behind HANDOVER", () -> w.bump(32), -2);
        SettingStore v = Check.running(2, 32);
        v.bump(32);
        v.set(1, 1, 4);
        v.set(2, 1, 4);
        Check.due("full", v.space(0, 0), 32);
        Check.due("a bit needs no ROOM", v.bump(32), 2);
        Check.due("no HANDOVER", v.count(7), 0);
    }

    private static void counterGoesUp() {
        Check.sentence("the highest bit that is 1 of the first of its eight bytes that is not 0 is cleared (one WRITE)");
        SettingStore x = Check.running(2, 32);
        x.bump(32);
        for (int i = 0; i < 64; i++) {
            Check.due("bump", x.bump(32), 2 + i);
            Check.due("byte " + i / 8, x.at(0, 10 + i / 8), 127 >> i % 8);
            Check.due("one WRITE each", x.wear(3), 5 + 6 + 1 + i);
        }
        SettingStore y = Check.running(2, 32);
        y.bump(32);
        y.off();
        y.rot(0, 10, 0);
        y.rot(0, 11, 0b00000001);
        y.rot(0, 12, 0b00111111);
        y.on();
        Check.due("rotten ones count", y.get(32), 1 + 8 + 7 + 2);
        Check.due("bump", y.bump(32), 19);
        Check.bytes(y, 0, 10, 0, 0, 0b00111111);
        Check.due("bump", y.bump(32), 20);
        Check.bytes(y, 0, 10, 0, 0, 0b00011111, 255);
    }

    private static void counterIsSpent() {
        Check.sentence("if there is none such (or no COUNTER): a new one is WRITTEN, BASE its value (0 without) and 1 more");
        SettingStore x = Check.running(2, 64);
        Check.due("no COUNTER", x.bump(32), 1);
        Check.bytes(x, 0, 4, Check.sealed(32, 43, 0, 0, 1));
        for (int i = 2; i <= 65; i++) {
            x.bump(32);
        }
        Check.due("the last bit", x.entry(0, -1, 0) * 1000 + x.get(32), 1065);
        Check.due("no bit is left", x.bump(32), 66);
        Check.bytes(x, 0, 18, Check.sealed(32, 43, 0, 0, 66));
        Check.bytes(x, 0, 24, 255, 255);
        int[][] carries = {{0, 0, 190, 0, 0, 255}, {0, 0, 191, 0, 1, 0}, {0, 255, 191, 1, 0, 0}};
        for (int[] c : carries) {
            SettingStore y = Check.made(2, 64);
            Check.burnHead(y, 0, 63, 1);
            Check.burn(y, 0, 4, Check.sealed(33, 43, c[0], c[1], c[2]));
            Check.burn(y, 0, 10, 0, 0, 0, 0, 0, 0, 0, 0);
            y.on();
            y.bump(33);
            Check.bytes(y, 0, 18, Check.sealed(33, 43, c[3], c[4], c[5]));
        }
        SettingStore z = Check.made(2, 64);
        Check.burnHead(z, 0, 63, 1);
        Check.burn(z, 0, 4, 32, 43, 0, 0, 9, 0);
        z.on();
        Check.due("a BAD one is none", z.bump(32), 1);
        Check.due("behind it", z.entry(0, 1, 0), 18);
    }

    private static void counterAtTheTop() {
        Check.sentence("Values above 16777215 (also one that is there by bits that rot): refused");
        SettingStore x = Check.made(2, 64);
        Check.burnHead(x, 0, 63, 1);
        Check.burn(x, 0, 4, Check.sealed(32, 43, 255, 255, 253));
        x.on();
        Check.due("bump", x.bump(32), 16777214);
        Check.due("bump", x.bump(32), 16777215);
        Check.refused(x, "bump at the top", () -> x.bump(32), -1);
        x.off();
        x.rot(0, 17, 0);
        x.on();
        Check.due("above it by bits that rot", x.get(32), 16777215 + 8);
        Check.refused(x, "bump above the top", () -> x.bump(32), -1);
        SettingStore y = Check.made(2, 64);
        Check.burnHead(y, 0, 63, 1);
        Check.burn(y, 0, 4, Check.sealed(32, 43, 255, 255, 190));
        Check.burn(y, 0, 10, 0, 0, 0, 0, 0, 0, 0, 0);
        Check.burn(y, 0, 18, Check.sealed(33, 43, 255, 255, 191));
        Check.burn(y, 0, 24, 0, 0, 0, 0, 0, 0, 0, 0);
        y.on();
        Check.due("a spent one of 16777214: the last new one", y.bump(32), 16777215);
        Check.bytes(y, 0, 32, Check.sealed(32, 43, 255, 255, 255));
        Check.refused(y, "a new one at the top", () -> y.bump(32), -1);
        Check.refused(y, "a spent one of 16777215", () -> y.bump(33), -1);
    }

    private static void ninthTag() {
        Check.sentence("(of 8 TAGS at most, a ninth is refused by -1");
        SettingStore x = Check.running(2, 128);
        x.set(20, 1, 1);
        x.set(7, 1, 1);
        x.begin();
        for (int tag = 0; tag < 8; tag++) {
            Check.due("set", x.set(tag, 1, 1), 0);
            Check.due("in the CHANGE", x.count(4), tag + 1);
        }
        Check.refused(x, "a ninth by set", () -> x.set(8, 1, 1), -1);
        Check.refused(x, "a ninth by drop", () -> x.drop(20), -1);
        Check.due("one of the eight by set", x.set(0, 2, 2), 0);
        Check.due("one of the eight by drop", x.drop(7), 0);
        Check.due("and by set again", x.set(7, 3, 1), 0);
        Check.due("in the CHANGE", x.count(4), 8);
        Check.due("commit", x.commit(), 5 + 7 * 4 + 4);
        Check.due("get(0)", x.get(0), 2);
        Check.due("get(7)", x.get(7), 3);
        Check.due("get(8)", x.get(8), -4);
        Check.due("get(20)", x.get(20), 1);
        x.begin();
        Check.due("a new CHANGE has room again", x.set(8, 1, 1), 0);
    }

    private static void latestAtThePlaceOfTheFirst() {
        Check.sentence("of a TAG the latest counts, at the place of the first)");
        SettingStore x = Check.running(2, 64);
        x.begin();
        x.set(3, 1, 4);
        x.set(1, 2, 1);
        x.set(2, 3, 1);
        x.set(3, 4, 1);
        x.set(2, 5, 2);
        x.drop(1);
        Check.due("in the CHANGE", x.count(4), 3);
        Check.due("commit", x.commit(), 4 + 3 + 5 + 4);
        Check.bytes(x, 0, 4, Check.sealed(3, 49, 4));
        Check.bytes(x, 0, 8, Check.sealed(1, 48));
        Check.bytes(x, 0, 11, Check.sealed(2, 50, 0, 5));
        Check.bytes(x, 0, 16, Check.sealed(63, 65, 3));
    }

    private static void setOfOthers() {
        Check.sentence("set: TAG (0 to 31), LENGTH (1 to 4); -1");
        int[][] others = {{-1, 1}, {32, 1}, {0, 0}, {0, 5}, {31, 0}, {31, 5}, {-1, 0}, {32, 5}, {63, 1}, {0, -1}};
        for (boolean changing : new boolean[] {false, true}) {
            SettingStore x = Check.running(2, 32);
            if (changing) {
                x.begin();
            }
            for (int[] tl : others) {
                Check.due("set(" + tl[0] + ", 1, " + tl[1] + ")", x.set(tl[0], 1, tl[1]), -1);
            }
            for (int far : FAR) {
                Check.due("set(" + far + ", 1, 1)", x.set(far, 1, 1), -1);
                Check.due("set(1, 1, " + far + ")", x.set(1, 1, far), -1);
            }
            Check.due("nothing in the CHANGE", x.count(4), changing ? 0 : -1);
            Check.due("nothing was WRITTEN", x.wear(3), 5);
            int[][] edges = {{0, 1, 4}, {0, 4, 7}, {31, 1, 4}, {31, 4, 7}};
            for (int[] e : edges) {
                Check.due("set(" + e[0] + ", 1, " + e[1] + ")", x.set(e[0], 1, e[1]), changing ? 0 : e[2]);
            }
        }
        SettingStore x = Check.filled(32, 28, 0);
        Check.due("without ROOM, of a TAG too great: -1", x.set(32, 1, 1), -1);
        Check.due("without ROOM, of LENGTH 5: -1", x.set(1, 1, 5), -1);
        SettingStore y = new SettingStore();
        Check.refused(y, "set while OFF", () -> y.set(1, 1, 1), -1);
    }

    private static void setLowestBytes() {
        Check.sentence("set: the lowest LENGTH (1 to 4) bytes of a value");
        int[] values = {0, 1, 255, 256, 65535, 65536, 16777215, 16777216, Integer.MAX_VALUE, Integer.MIN_VALUE, -1, -256};
        for (int value : values) {
            SettingStore x = Check.running(2, 128);
            long[] want = {value & 255L, value & 65535L, value & 16777215L, value & 4294967295L};
            for (int length = 1; length <= 4; length++) {
                x.set(length, value, length);
                Check.due(length + " of " + value, x.get(length), want[length - 1]);
            }
        }
    }

    private static void setTorn() {
        Check.sentence("set: how many DOINGS it took; -3");
        for (int n = 1; n <= 10 + 4; n++) {
            SettingStore x = Check.filled(32, 4, 24);
            x.power(n, 255);
            Check.due("set with HANDOVER torn at " + n, x.set(1, 1, 1), -3);
            Check.due("POWER went", x.count(6), 1);
            Check.due("HANDOVERS at their end", x.count(7), n > 10 ? 1 : 0);
            Check.due("on()", x.on(), n == 14 ? 2 : 1);
        }
        SettingStore x = Check.filled(32, 4, 24);
        x.power(15, 255);
        Check.due("set with HANDOVER, POWER one DOING behind it", x.set(1, 1, 1), 14);
        Check.due("till it goes", x.count(5), 1);
    }

    private static void dropOfNone() {
        Check.sentence("drop: likewise; also -1: there is none");
        SettingStore x = Check.running(2, 64);
        x.bump(32);
        for (int tag : new int[] {-1, 0, 31, 32, 33, 47, 48, 63}) {
            Check.due("drop(" + tag + ")", x.drop(tag), -1);
        }
        for (int far : FAR) {
            Check.due("drop(" + far + ")", x.drop(far), -1);
        }
        Check.due("nothing was WRITTEN", x.wear(3), 5 + 6);
        x.set(0, 0, 1);
        x.set(31, 0, 4);
        Check.due("drop(0) of the value 0", x.drop(0), 3);
        Check.refused(x, "drop(0) again", () -> x.drop(0), -1);
        Check.due("drop(31)", x.drop(31), 3);
        Check.due("drop(31) again", x.drop(31), -1);
        x.set(0, 1, 1);
        Check.due("of one that is there again", x.drop(0), 3);
        SettingStore y = Check.filled(32, 28, 0);
        Check.due("without ROOM, of none: -1", y.drop(0), -1);
        Check.due("without ROOM", y.drop(31), -2);
        y.off();
        Check.refused(y, "drop while OFF", () -> y.drop(31), -1);
    }

    private static void dropInAChange() {
        Check.sentence("drop: (0 in a CHANGE); -1: there is none (as a CHANGE would leave it)");
        SettingStore x = Check.running(2, 64);
        x.set(1, 1, 1);
        x.begin();
        Check.due("of none", x.drop(2), -1);
        Check.due("none comes into the CHANGE by it", x.count(4), 0);
        Check.due("of one that is there", x.drop(1), 0);
        Check.due("again", x.drop(1), -1);
        Check.due("set of another", x.set(2, 2, 1), 0);
        Check.due("of one that would be there", x.drop(2), 0);
        Check.due("again", x.drop(2), -1);
        Check.due("set in it", x.set(1, 3, 1), 0);
        Check.due("of one that would be there again", x.drop(1), 0);
        Check.due("in the CHANGE", x.count(4), 2);
        x.abort();
        Check.due("forgotten: it is there", x.drop(1), 3);
        Check.due("no more", x.drop(1), -1);
    }

    private static void dropTorn() {
        Check.sentence("drop: -3");
        for (int n = 1; n <= 3; n++) {
            SettingStore x = Check.running(2, 64);
            x.set(1, 1, 1);
            x.power(n, 255);
            Check.due("drop torn at " + n, x.drop(1), -3);
            Check.due("on()", x.on(), n == 3 ? 0 : 1);
        }
    }

    private static void bumpOfOthers() {
        Check.sentence("bump: A COUNTER (32 to 47) goes up; -1 (in a CHANGE, too)");
        SettingStore x = Check.running(2, 64);
        for (int tag : new int[] {-1, 0, 31, 48, 63}) {
            Check.due("bump(" + tag + ")", x.bump(tag), -1);
        }
        for (int far : FAR) {
            Check.due("bump(" + far + ")", x.bump(far), -1);
        }
        Check.due("nothing was WRITTEN", x.wear(3), 5);
        Check.due("bump(32)", x.bump(32), 1);
        Check.due("bump(47)", x.bump(47), 1);
        x.begin();
        Check.refused(x, "bump in a CHANGE", () -> x.bump(32), -1);
        x.abort();
        Check.due("behind it", x.bump(32), 2);
        x.off();
        Check.refused(x, "bump while OFF", () -> x.bump(32), -1);
        SettingStore y = Check.filled(32, 28, 0);
        Check.due("without ROOM, in a CHANGE: -1", y.begin() ? y.bump(32) : 0, -1);
        Check.due("without ROOM, of no COUNTER: -1", y.bump(31), -1);
    }

    private static void bumpTorn() {
        Check.sentence("bump: -3");
        for (int n = 1; n <= 6; n++) {
            SettingStore x = Check.running(2, 64);
            x.power(n, 255);
            Check.due("bump torn at " + n, x.bump(32), -3);
            Check.due("on()", x.on(), n == 6 ? 1 : 0);
            Check.due("get", x.get(32), n == 6 ? 1 : -4);
        }
        int[][] masks = {{0, 1}, {0b01111111, 1}, {0b10000000, 2}, {255, 2}};
        for (int[] m : masks) {
            SettingStore x = Check.running(2, 64);
            x.bump(32);
            x.power(1, m[0]);
            Check.due("bump of a bit, torn", x.bump(32), -3);
            x.on();
            Check.due("MASK " + m[0], x.get(32), m[1]);
        }
    }

    private static void beginOfOthers() {
        Check.sentence("begin: A CHANGE begins: true; false: OFF, one has begun");
        SettingStore x = new SettingStore();
        Check.refused(x, "begin while OFF", () -> x.begin() ? 1 : 0, 0);
        x.on();
        Check.due("begin", x.begin(), true);
        Check.refused(x, "begin of an empty one again", () -> x.begin() ? 1 : 0, 0);
        x.set(1, 1, 1);
        Check.refused(x, "begin again", () -> x.begin() ? 1 : 0, 0);
        Check.due("its settings stay", x.commit(), 8);
        Check.due("begin behind commit", x.begin(), true);
        x.abort();
        Check.due("begin behind abort", x.begin(), true);
        x.commit();
        Check.due("begin behind an empty one", x.begin(), true);
    }

    private static void commitOfNone() {
        Check.sentence("commit: -1: none has begun, it is empty (then it is over)");
        SettingStore x = new SettingStore();
        Check.refused(x, "commit while OFF", x::commit, -1);
        x.on();
        Check.refused(x, "commit of none", x::commit, -1);
        x.begin();
        Check.due("commit of an empty one", x.commit(), -1);
        Check.due("it is over", x.count(4), -1);
        Check.due("nothing was WRITTEN", x.wear(3), 5);
        Check.due("abort", x.abort(), -1);
        Check.due("not in a CHANGE", x.set(1, 1, 1), 4);
        x.begin();
        x.set(1, 2, 1);
        x.commit();
        Check.refused(x, "commit again", x::commit, -1);
    }

    private static void commitStays() {
        Check.sentence("commit: -2 (it stays)");
        SettingStore x = Check.filled(32, 20, 4);
        x.begin();
        x.set(1, 1, 2);
        Check.refused(x, "9 bytes, 4 FREE ones, 8 behind HANDOVER", x::commit, -2);
        Check.refused(x, "again", x::commit, -2);
        Check.due("a shorter one", x.set(1, 1, 1), 0);
        Check.due("8 bytes, 8 behind HANDOVER", x.commit(), 4 + 20 + 2 + 8);
        Check.due("full", x.space(1, 0), 32);
        Check.due("it is over", x.count(4), -1);
        SettingStore y = Check.filled(32, 28, 0);
        y.begin();
        y.drop(31);
        Check.refused(y, "a drop needs ROOM, too", y::commit, -2);
        Check.due("abort", y.abort(), 1);
    }

    private static void commitDoings() {
        Check.sentence("commit: It is WRITTEN: how many DOINGS");
        ToIntFunction<SettingStore> eight = x -> {
            x.begin();
            for (int tag = 0; tag < 8; tag++) {
                x.set(tag, 1, 4);
            }
            return x.commit();
        };
        SettingStore x = Check.filled(128, 4, 60);
        Check.due("the most: 60 into 60 FREE ones", eight.applyAsInt(x), 60);
        Check.due("full", x.space(0, 0), 128);
        SettingStore y = Check.filled(128, 4, 61);
        Check.due("60 into 59 FREE ones", eight.applyAsInt(y), 4 + 4 + 2 + 60);
        SettingStore z = Check.filled(128, 64, 3);
        Check.due("60 behind HANDOVER", eight.applyAsInt(z), 4 + 64 + 2 + 60);
        Check.due("full", z.space(1, 0), 128);
        SettingStore w = Check.filled(128, 65, 0);
        Check.due("59 behind HANDOVER", eight.applyAsInt(w), -2);
        SettingStore v = Check.filled(32, 4, 17);
        v.begin();
        v.drop(31);
        Check.due("the fewest: 7 into 7 FREE ones", v.commit(), 7);
        Check.due("get", v.get(31), -4);
    }

    private static void commitTorn() {
        Check.sentence("changes of several settings that come all or not at all");
        for (int n = 1; n <= 4 + 4 + 2 + 12; n++) {
            SettingStore x = Check.filled(32, 4, 24);
            x.begin();
            x.set(31, 8, 1);
            x.set(1, 7, 1);
            x.power(n, 255);
            Check.due("commit with HANDOVER torn at " + n, x.commit(), -3);
            Check.due("no CHANGE any more", x.count(4), -1);
            Check.due("on()", x.on(), n == 22 ? 2 : 1);
            Check.due("31", x.get(31), n == 22 ? 8 : 9);
            Check.due("1", x.get(1), n == 22 ? 7 : -4);
        }
    }

    private static void abortOfNone() {
        Check.sentence("abort: It is forgotten: how many settings it had; NONE: none has begun");
        SettingStore x = new SettingStore();
        Check.refused(x, "abort while OFF", x::abort, -1);
        x.on();
        Check.refused(x, "abort of none", x::abort, -1);
        x.begin();
        Check.due("abort of an empty one", x.abort(), 0);
        Check.due("abort again", x.abort(), -1);
        x.begin();
        for (int tag = 0; tag < 9; tag++) {
            x.set(tag, 1, 1);
        }
        Check.due("abort of a full one", x.abort(), 8);
        Check.due("none has begun", x.count(4), -1);
        Check.due("nothing was WRITTEN", x.wear(3), 5);
        x.begin();
        x.set(1, 1, 1);
        x.set(1, 2, 1);
        x.drop(1);
        Check.due("one TAG thrice is one", x.abort(), 1);
    }

    private static void getOfOthers() {
        Check.sentence("get: NOTHING: none; NONE: others, OFF");
        SettingStore x = Check.running(2, 64);
        for (int tag : new int[] {0, 31, 32, 47}) {
            Check.due("get(" + tag + ")", x.get(tag), -4);
        }
        for (int tag : new int[] {-1, 48, 63, 64}) {
            Check.due("get(" + tag + ")", x.get(tag), -1);
        }
        for (int far : FAR) {
            Check.due("get(" + far + ")", x.get(far), -1);
        }
        x.set(0, 5, 1);
        x.set(31, 6, 1);
        x.bump(32);
        x.bump(47);
        long[][] edges = {{0, 5}, {31, 6}, {32, 1}, {47, 1}};
        for (long[] e : edges) {
            Check.due("get(" + e[0] + ")", x.get((int) e[0]), e[1]);
        }
        x.begin();
        x.set(0, 9, 1);
        x.drop(31);
        x.set(1, 9, 1);
        Check.due("not of a CHANGE: set", x.get(0), 5);
        Check.due("not of a CHANGE: drop", x.get(31), 6);
        Check.due("not of a CHANGE: new", x.get(1), -4);
        x.off();
        Check.due("OFF", x.get(0), -1);
        Check.due("OFF, of none", x.get(2), -1);
    }

    private static void getOfFour() {
        Check.sentence("get: (a setting of LENGTH 4, too, as a number from 0 on");
        int[] values = {0, 1, Integer.MAX_VALUE, Integer.MIN_VALUE, -1, -4, -5};
        for (int value : values) {
            SettingStore x = Check.running(2, 64);
            x.set(1, value, 4);
            Check.due("get of " + value, x.get(1), Integer.toUnsignedLong(value));
            x.hand();
            Check.due("behind HANDOVER", x.get(1), Integer.toUnsignedLong(value));
            Check.due("length", x.length(1), 4);
        }
    }

    private static void lengthOfOthers() {
        Check.sentence("length: LENGTH of a setting; 3 of a COUNTER; 0: none; NONE: others, OFF");
        SettingStore x = Check.running(2, 128);
        for (int tag : new int[] {0, 31, 32, 47}) {
            Check.due("length(" + tag + ")", x.length(tag), 0);
        }
        for (int tag : new int[] {-1, 48, 63, 64}) {
            Check.due("length(" + tag + ")", x.length(tag), -1);
        }
        for (int far : FAR) {
            Check.due("length(" + far + ")", x.length(far), -1);
        }
        for (int length = 1; length <= 4; length++) {
            x.set(31, 0, length);
            Check.due("length", x.length(31), length);
        }
        x.bump(32);
        x.bump(47);
        Check.due("of the first COUNTER", x.length(32), 3);
        Check.due("of the last COUNTER", x.length(47), 3);
        x.begin();
        x.set(31, 0, 1);
        Check.due("not of a CHANGE", x.length(31), 4);
        x.commit();
        Check.due("of a COMMITTED PART", x.length(31), 1);
        x.drop(31);
        Check.due("none any more", x.length(31), 0);
        x.off();
        Check.due("OFF", x.length(32), -1);
        Check.due("OFF, of none", x.length(0), -1);
    }

    private static void handOfOthers() {
        Check.sentence("hand: HANDOVER by hand: how many DOINGS; -1");
        SettingStore x = new SettingStore();
        Check.refused(x, "hand while OFF", x::hand, -1);
        x.on();
        Check.due("the fewest", x.hand(), 6);
        x.off();
        Check.refused(x, "hand while OFF", x::hand, -1);
        SettingStore y = Check.filled(128, 124, 0);
        Check.due("the most", y.hand(), 130);
        Check.due("and again", y.hand(), 130);
        SettingStore z = Check.running(2, 32);
        z.begin();
        z.set(1, 1, 1);
        Check.due("in a CHANGE, which is not WRITTEN by it", z.hand(), 6);
        Check.due("it stays", z.count(4), 1);
        Check.due("commit", z.commit(), 8);
    }

    private static void handTorn() {
        Check.sentence("hand: -3");
        for (int n = 1; n <= 16; n++) {
            SettingStore x = Check.running(2, 32);
            x.set(5, 6, 1);
            x.bump(32);
            x.power(n, 255);
            Check.due("hand torn at " + n, x.hand(), -3);
            Check.due("till POWER goes", x.count(5), 0);
            Check.due("on()", x.on(), 2);
            Check.due("in use", x.count(3), n < 15 ? 0 : 1);
            Check.due("nothing is lost", x.get(5) * 10 + x.get(32), 61);
        }
        SettingStore x = Check.running(2, 32);
        x.set(5, 6, 1);
        x.bump(32);
        x.power(17, 255);
        Check.due("POWER one DOING behind it", x.hand(), 16);
    }

    private static void manyCalls() {
        Check.sentence("An object is used for at most 512 calls after it has been made");
        SettingStore x = new SettingStore();
        x.chip(2, 32);
        x.on();
        for (int i = 1; i <= 510; i++) {
            Check.due("bump", x.bump(32), i);
        }
        SettingStore y = new SettingStore();
        y.on();
        for (int i = 1; i <= 511; i++) {
            Check.due("hand", y.hand(), 6);
        }
        SettingStore z = Check.filled(128, 116, 4);
        for (int i = 1; i <= 300; i++) {
            Check.due("torn", z.torn(0, i, 4, 4 + 116 + 2 + 7, 255, 0), i);
        }
    }
}
