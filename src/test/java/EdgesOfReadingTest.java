import java.util.NoSuchElementException;

/** The boundary cases of Terms 2 (HEAD and ENTRIES) and of promises 16 to 19, a method for each sentence. */
public final class EdgesOfReadingTest {
    private static final int[] FAR = {Integer.MIN_VALUE, -65536, -256, -2, Integer.MAX_VALUE};

    public static void main(String[] args) {
        states();
        numbers();
        checks();
        lengths();
        lengthNone();
        tagsOfEntries();
        counterValues();
        counterCheck();
        readFrom();
        freeBegins();
        endsWithin();
        oneByteLeft();
        firstTwoBytes();
        badOnes();
        commitTells();
        commitHasAsMany();
        commitBetween();
        commitOfBadParts();
        badCommits();
        partsAlone();
        newestOnes();
        atOfOthers();
        alsoWhileOff();
        sectorOfOthers();
        sectorAsItsBytesTell();
        sectorAllBytes();
        sectorInUse();
        entryHowMany();
        entryOfOthers();
        entryWhat();
        spaceOfOthers();
        spaceOfNone();
        spaceOfEntries();
        Check.finish("EdgesOfReadingTest");
    }

    private static void states() {
        Check.sentence("STATE (255 none, 127 RECEIVING, 63 ACTIVE)");
        for (int state : new int[] {255, 127, 126, 62, 61, 59, 31, 0, 191}) {
            SettingStore x = Check.made(2, 32);
            Check.burnHead(x, 0, state, 9);
            Check.burn(x, 0, 4, Check.sealed(1, 17, 1));
            Check.due("STATE " + state + " is not ACTIVE: on()", x.on(), 0);
            Check.due("it was ERASED", x.sector(0, 2), 1);
        }
        SettingStore x = Check.made(2, 32);
        Check.burnHead(x, 0, 63, 9);
        Check.burn(x, 0, 4, Check.sealed(1, 17, 1));
        Check.due("ACTIVE: on()", x.on(), 1);
        Check.due("it was not ERASED", x.sector(0, 2), 0);
    }

    private static void numbers() {
        Check.sentence("its NUMBER (two bytes, the higher one first)");
        int[] edges = {0, 1, 255, 256, 257, 65279, 65280, 65534, 65535};
        for (int number : edges) {
            SettingStore x = Check.made(2, 32);
            Check.burnHead(x, 1, 63, number);
            Check.due("NUMBER", x.sector(1, 1), number);
            x.on();
            Check.due("in use", x.count(3), 1);
            x.hand();
            int next = number == 65535 ? 0 : number + 1;
            Check.bytes(x, 0, 1, next / 256, next % 256);
        }
    }

    private static void checks() {
        Check.sentence("CHECK of bytes: their sum and 85, mod 251");
        int[][] known = {{0, 0, 85}, {0, 165, 250}, {0, 166, 0}, {0, 167, 1}, {166, 0, 0}, {255, 161, 250},
            {255, 162, 0}, {255, 255, 93}};
        for (int[] k : known) {
            SettingStore x = Check.made(2, 32);
            Check.burn(x, 0, 0, 63, k[0], k[1], k[2]);
            x.on();
            Check.due("right: " + k[0] + ", " + k[1], x.sector(0, 2), 0);
            SettingStore y = Check.made(2, 32);
            Check.burn(y, 0, 0, 63, k[0], k[1], k[2] + 1);
            y.on();
            Check.due("one more is wrong: " + k[0] + ", " + k[1], y.sector(0, 2), 1);
        }
        SettingStore x = Check.made(2, 32);
        Check.burn(x, 0, 0, 63, 0, 166, 251);
        x.on();
        Check.due("251 is not 0", x.sector(0, 2), 1);
        SettingStore y = Check.running(2, 64);
        y.set(0, 148, 1);
        y.set(0, 149, 1);
        y.set(31, -1, 4);
        Check.bytes(y, 0, 4, 0, 17, 148, 250);
        Check.bytes(y, 0, 8, 0, 17, 149, 0);
        Check.bytes(y, 0, 12, 31, 20, 255, 255, 255, 255, 152);
        Check.due("of a CHECK of 0, too", y.history(0, 0), 149);
    }

    private static void lengths() {
        Check.sentence("LENGTH bytes (0 to 4; the highest first), CHECK of all these");
        for (int length = 0; length <= 4; length++) {
            int[] row = new int[2 + length];
            row[0] = 9;
            row[1] = 16 + length;
            long value = 0;
            for (int i = 0; i < length; i++) {
                row[2 + i] = 200 + i;
                value = value * 256 + 200 + i;
            }
            SettingStore x = Check.made(2, 32);
            Check.burnHead(x, 0, 63, 1);
            Check.burn(x, 0, 4, Check.sealed(row));
            Check.due("on()", x.on(), length == 0 ? 0 : 1);
            Check.due("LENGTH " + length, x.get(9), length == 0 ? -4 : value);
            Check.due("its bytes", x.entry(0, 0, 3), 3 + length);
            Check.due("FREE", x.space(0, 0), 7 + length);
        }
        for (int second : new int[] {15, 21}) {
            SettingStore x = Check.made(2, 32);
            Check.burn(x, 0, 4, Check.sealed(9, second, 1, 2, 3, 4, 5));
            Check.due("16 and LENGTH is " + second, x.entry(0, -1, 0), 0);
            Check.due("LOST", x.space(0, 1), 28);
        }
    }

    private static void lengthNone() {
        Check.sentence("LENGTH 0: there is no such setting any more");
        SettingStore x = Check.made(2, 32);
        Check.burnHead(x, 0, 63, 1);
        Check.burn(x, 0, 4, Check.sealed(9, 17, 1));
        Check.burn(x, 0, 8, Check.sealed(9, 16));
        Check.due("on()", x.on(), 0);
        Check.due("get", x.get(9), -4);
        Check.due("the older one does not come back", x.entry(0, 0, 4), 1);
        Check.due("it is NEWEST", x.entry(0, 1, 4), 0);
        Check.due("without a value", x.space(0, 2), 0);
        Check.due("hand() WRITES nothing of it", x.hand(), 6);
    }

    private static void tagsOfEntries() {
        Check.sentence("a SETTING: TAG (0 to 31); a COUNTER: TAG (32 to 47)");
        for (int tag : new int[] {0, 31, 32, 47, 48, 62, 63, 64, 255}) {
            SettingStore x = Check.made(2, 32);
            Check.burn(x, 0, 4, Check.sealed(tag, 17, 1));
            Check.due("SETTING of " + tag, x.entry(0, -1, 0), tag <= 31 ? 1 : 0);
            SettingStore y = Check.made(2, 32);
            Check.burn(y, 0, 4, Check.sealed(tag, 49, 1));
            Check.due("PART of " + tag, y.entry(0, -1, 0), tag <= 31 ? 1 : 0);
            SettingStore z = Check.made(2, 32);
            Check.burn(z, 0, 4, Check.sealed(tag, 43, 0, 0, 1));
            Check.due("COUNTER of " + tag, z.entry(0, -1, 0), tag >= 32 && tag <= 47 ? 1 : 0);
            SettingStore w = Check.made(2, 32);
            Check.burn(w, 0, 4, Check.sealed(tag, 65, 1));
            Check.due("COMMIT of " + tag, w.entry(0, -1, 0), tag == 63 ? 1 : 0);
        }
    }

    private static void counterValues() {
        Check.sentence("its value is BASE and how many bits of these are 0");
        int[][] bases = {{0, 0, 0}, {0, 0, 255}, {0, 255, 255}, {255, 255, 255}};
        for (int[] base : bases) {
            long told = base[0] * 65536L + base[1] * 256 + base[2];
            SettingStore x = Check.made(2, 32);
            Check.burnHead(x, 0, 63, 1);
            Check.burn(x, 0, 4, Check.sealed(32, 43, base[0], base[1], base[2]));
            Check.due("on(): a value of 0 is one, too", x.on(), 1);
            Check.due("no bit", x.get(32), told);
            x.off();
            x.rot(0, 10, 0b11111110);
            x.rot(0, 17, 0b01111111);
            x.on();
            Check.due("a bit of the first and of the last byte", x.get(32), told + 2);
            x.off();
            for (int p = 10; p < 18; p++) {
                x.rot(0, p, 0);
            }
            x.on();
            Check.due("all 64 bits", x.get(32), told + 64);
        }
    }

    private static void counterCheck() {
        Check.sentence("CHECK of these five, then eight bytes");
        SettingStore x = Check.made(2, 32);
        Check.burnHead(x, 0, 63, 1);
        Check.burn(x, 0, 4, Check.sealed(47, 43, 1, 2, 3));
        Check.burn(x, 0, 10, 1, 2, 3, 4, 5, 6, 7, 8);
        Check.due("the eight bytes are not of it", x.entry(0, 0, 4), 0);
        Check.due("bytes", x.entry(0, 0, 3), 14);
        Check.due("FREE behind them", x.space(0, 0), 18);
        x.rot(0, 8, 2);
        Check.due("BASE is", x.entry(0, 0, 4), 2);
    }

    private static void readFrom() {
        Check.sentence("To READ a SECTOR: from place 4 on");
        SettingStore x = Check.made(2, 32);
        Check.burn(x, 0, 0, 1, 17, 1, 104);
        Check.due("the HEAD is none", x.entry(0, -1, 0), 0);
        Check.due("FREE", x.space(0, 0), 4);
        Check.due("LOST", x.space(0, 1), 0);
        Check.burn(x, 0, 4, Check.sealed(1, 17, 1));
        Check.due("place", x.entry(0, 0, 0), 4);
        Check.due("a SECTOR without a HEAD is READ, too", x.space(0, 2), 4);
    }

    private static void freeBegins() {
        Check.sentence("as long as not all bytes that follow are 255 (there the FREE ones begin)");
        SettingStore x = Check.made(2, 32);
        Check.due("all of an empty one", x.space(0, 0), 4);
        Check.burn(x, 0, 4, 5, 20);
        Check.due("behind a BAD one whose last bytes are 255", x.space(0, 0), 11);
        Check.burn(x, 0, 11, Check.sealed(32, 43, 0, 0, 1));
        Check.due("behind a COUNTER whose eight bytes are 255", x.space(0, 0), 25);
        Check.burn(x, 0, 25, Check.sealed(5, 20, 255, 255, 255, 255));
        Check.due("none of a full one", x.space(0, 0), 32);
        Check.due("nothing is LOST in it", x.space(0, 1), 0);
        for (int p = 4; p < 32; p++) {
            SettingStore y = Check.made(2, 32);
            Check.burn(y, 0, p, 254);
            Check.due("a byte at " + p + ": none", y.space(0, 0), 32);
            Check.due("a byte at " + p + ": LOST from 4 on", y.space(0, 1), 28);
        }
    }

    private static void endsWithin() {
        Check.sentence("an ENTRY, if it ends within the SECTOR; else the TAIL is LOST (there are no FREE ones)");
        int[][] kinds = {{1, 16, 3}, {1, 17, 4}, {1, 18, 5}, {1, 19, 6}, {1, 20, 7}, {32, 43, 14}, {47, 43, 14},
            {1, 48, 3}, {1, 49, 4}, {1, 50, 5}, {1, 51, 6}, {1, 52, 7}, {63, 65, 4}};
        for (int[] k : kinds) {
            for (int b : new int[] {32, 33, 64, 128}) {
                int place = b - k[2];
                SettingStore x = Check.made(2, b);
                Check.burnDead(x, 0, 4, place - 4);
                int ahead = x.entry(0, -1, 0);
                Check.burn(x, 0, place, k[0], k[1]);
                Check.due("ENTRIES with " + k[1] + " right at the end", x.entry(0, -1, 0), ahead + 1);
                Check.due("its place", x.entry(0, ahead, 0), place);
                Check.due("FREE", x.space(0, 0), b);
                Check.due("LOST", x.space(0, 1), 0);
                SettingStore y = Check.made(2, b);
                Check.burnDead(y, 0, 4, place + 1 - 4);
                ahead = y.entry(0, -1, 0);
                Check.burn(y, 0, place + 1, k[0], k[1]);
                Check.due("ENTRIES with " + k[1] + " one byte behind it", y.entry(0, -1, 0), ahead);
                Check.due("FREE", y.space(0, 0), b);
                Check.due("LOST", y.space(0, 1), k[2] - 1);
            }
        }
    }

    private static void oneByteLeft() {
        Check.sentence("an ENTRY, if its first two bytes are those of one");
        for (int first : new int[] {0, 31, 32, 63, 254}) {
            SettingStore x = Check.made(2, 32);
            Check.burnDead(x, 0, 4, 27);
            Check.due("FREE", x.space(0, 0), 31);
            int ahead = x.entry(0, -1, 0);
            Check.burn(x, 0, 31, first);
            Check.due("there is no second byte", x.entry(0, -1, 0), ahead);
            Check.due("FREE", x.space(0, 0), 32);
            Check.due("LOST", x.space(0, 1), 1);
            SettingStore y = Check.made(2, 32);
            Check.burnHead(y, 0, 63, 1);
            Check.burn(y, 0, 4, first);
            y.on();
            Check.due("the second byte is 255", y.space(0, 1), 28);
            Check.due("no FREE ones: HANDOVER", y.set(1, 1, 1), 6 + 4);
        }
    }

    private static void firstTwoBytes() {
        Check.sentence("if its first two bytes are those of one (as above); else the TAIL is LOST");
        for (int second = 0; second < 256; second++) {
            boolean setting = second >= 16 && second <= 20 || second >= 48 && second <= 52;
            int[][] tags = {{31, setting ? 1 : 0}, {32, second == 43 ? 1 : 0}, {63, second == 65 ? 1 : 0}, {48, 0}};
            for (int[] t : tags) {
                SettingStore x = Check.made(2, 32);
                Check.burn(x, 0, 4, Check.sealed(1, 17, 1));
                Check.burn(x, 0, 8, t[0], second);
                Check.due("ENTRIES with " + t[0] + ", " + second, x.entry(0, -1, 0), 1 + t[1]);
                Check.due("LOST", x.space(0, 1), t[1] == 1 ? 0 : 24);
            }
        }
    }

    private static void badOnes() {
        Check.sentence("An ENTRY of which CHECK is wrong is BAD");
        int[][] rows = {{1, 16}, {1, 17, 4}, {1, 20, 4, 4, 4, 4}, {32, 43, 0, 0, 4}, {1, 48}, {1, 52, 4, 4, 4, 4},
            {63, 65, 1}};
        for (int[] row : rows) {
            for (int wrong : new int[] {-1, 1}) {
                SettingStore x = Check.made(2, 32);
                int[] sealed = Check.sealed(row);
                sealed[row.length] += wrong;
                Check.burn(x, 0, 4, sealed);
                Check.due("CHECK of " + row[1] + " off by " + wrong, x.entry(0, 0, 4), 2);
                Check.due("it is an ENTRY", x.space(0, 1), 0);
            }
            SettingStore x = Check.made(2, 32);
            Check.burn(x, 0, 4, Check.sealed(row));
            Check.due("CHECK of " + row[1] + " right", x.entry(0, 0, 4), row[1] >= 48 ? 3 : 0);
        }
    }

    /** So many PARTS of TAGS from 0 on from place 4 on, four bytes each, a COMMIT of so many behind them. */
    private static SettingStore committed(int parts, int told) {
        SettingStore x = Check.made(2, 128);
        Check.burnHead(x, 0, 63, 1);
        for (int i = 0; i < parts; i++) {
            Check.burn(x, 0, 4 + 4 * i, Check.sealed(i, 49, 100 + i));
        }
        Check.burn(x, 0, 4 + 4 * parts, Check.sealed(63, 65, told));
        return x;
    }

    private static void commitTells() {
        Check.sentence("A COMMIT that is not BAD, tells 1 to 8");
        for (int parts : new int[] {0, 1, 2, 7, 8, 9, 10, 11}) {
            SettingStore x = committed(parts, parts);
            boolean counts = parts >= 1 && parts <= 8;
            Check.due("COMMIT of " + parts, x.entry(0, parts, 4), counts ? 0 : 3);
            Check.due("on()", x.on(), counts ? parts : 0);
            for (int i = 0; i < parts; i++) {
                Check.due("PART " + i + " of " + parts, x.entry(0, i, 4), counts ? 0 : 3);
                Check.due("get", x.get(i), counts ? 100 + i : -4);
            }
        }
        for (int told : new int[] {0, 9, 16, 128, 254, 255}) {
            SettingStore x = committed(20, told);
            Check.due("COMMIT that tells " + told, x.entry(0, 20, 4), 3);
            Check.due("on()", x.on(), 0);
        }
    }

    private static void commitHasAsMany() {
        Check.sentence("has at least as many PARTS right ahead of it");
        for (int parts = 0; parts <= 9; parts++) {
            for (int told = 1; told <= 8; told++) {
                SettingStore x = committed(parts, told);
                boolean counts = parts >= told;
                Check.due("COMMIT of " + told + " behind " + parts, x.entry(0, parts, 4), counts ? 0 : 3);
                for (int i = 0; i < parts; i++) {
                    int want = counts && i >= parts - told ? 0 : 3;
                    Check.due("PART " + i + " of " + parts + ", COMMIT of " + told, x.entry(0, i, 4), want);
                }
                Check.due("on()", x.on(), counts ? told : 0);
            }
        }
    }

    /** PARTS of 1 and 2 with another ENTRY between them, a COMMIT of two. */
    private static void between(int kind, int[] row, int size) {
        SettingStore x = Check.made(2, 64);
        Check.burn(x, 0, 4, Check.sealed(1, 49, 1));
        Check.burn(x, 0, 8, row);
        Check.burn(x, 0, 8 + size, Check.sealed(2, 49, 2));
        Check.burn(x, 0, 12 + size, Check.sealed(63, 65, 2));
        Check.due("between them", x.entry(0, 1, 2), kind);
        Check.due("the PART ahead of it", x.entry(0, 0, 4), kind == 3 && x.entry(0, 1, 4) == 0 ? 0 : 3);
        Check.due("the PART behind it", x.entry(0, 2, 4), 3);
        Check.due("COMMIT", x.entry(0, 3, 4), 3);
        SettingStore y = Check.made(2, 64);
        Check.burn(y, 0, 4, Check.sealed(1, 49, 1));
        Check.burn(y, 0, 8, row);
        Check.burn(y, 0, 8 + size, Check.sealed(63, 65, 1));
        Check.due("right ahead of the COMMIT: " + kind, y.entry(0, 2, 4), 3);
    }

    private static void commitBetween() {
        Check.sentence("(one behind the other, no other ENTRY between)");
        between(0, Check.sealed(9, 17, 1), 4);
        between(0, Check.sealed(9, 16), 3);
        between(0, new int[] {9, 17, 1, 1}, 4);
        between(1, Check.sealed(32, 43, 0, 0, 1), 14);
        between(3, Check.sealed(63, 65, 1), 4);
        between(3, Check.sealed(63, 65, 2), 4);
        between(3, new int[] {63, 65, 1, 1}, 4);
    }

    private static void commitOfBadParts() {
        Check.sentence("the last so many of them none BAD");
        for (int bad = 0; bad < 5; bad++) {
            for (int told = 1; told <= 5; told++) {
                SettingStore x = committed(5, told);
                x.rot(0, 7 + 4 * bad, 0);
                boolean counts = bad < 5 - told;
                Check.due("COMMIT of " + told + ", BAD " + bad, x.entry(0, 5, 4), counts ? 0 : 3);
                Check.due("on()", x.on(), counts ? told : 0);
                for (int i = 0; i < 5; i++) {
                    int want = i == bad ? 2 : counts && i >= 5 - told ? 0 : 3;
                    Check.due("PART " + i + ", COMMIT of " + told + ", BAD " + bad, x.entry(0, i, 4), want);
                }
            }
        }
    }

    private static void badCommits() {
        Check.sentence("A COMMIT that is not BAD");
        SettingStore x = committed(2, 2);
        x.rot(0, 15, 0);
        Check.due("it", x.entry(0, 2, 4), 2);
        Check.due("its PARTS", x.entry(0, 0, 4) * 10 + x.entry(0, 1, 4), 33);
        Check.due("on()", x.on(), 0);
    }

    private static void partsAlone() {
        Check.sentence("all other PARTS, COMMITS are IDLE");
        SettingStore x = Check.made(2, 64);
        Check.burnHead(x, 0, 63, 1);
        Check.burn(x, 0, 4, Check.sealed(1, 17, 1));
        Check.burn(x, 0, 8, Check.sealed(1, 49, 2));
        Check.burn(x, 0, 12, Check.sealed(1, 48));
        Check.due("marks", x.entry(0, 0, 4) * 100 + x.entry(0, 1, 4) * 10 + x.entry(0, 2, 4), 33);
        Check.due("on()", x.on(), 1);
        Check.due("get", x.get(1), 1);
        Check.due("history", x.history(1, -1), 1);
    }

    private static void newestOnes() {
        Check.sentence("The NEWEST of a TAG: the last SETTING, COUNTER, COMMITTED PART of it that is not BAD");
        SettingStore x = Check.made(2, 128);
        Check.burnHead(x, 0, 63, 1);
        Check.burn(x, 0, 4, Check.sealed(1, 17, 1));
        Check.burn(x, 0, 8, Check.sealed(1, 49, 2));
        Check.burn(x, 0, 12, Check.sealed(1, 49, 3));
        Check.burn(x, 0, 16, Check.sealed(63, 65, 2));
        Check.due("of two PARTS the last", x.entry(0, 2, 4) * 10 + x.entry(0, 1, 4), 1);
        Check.burn(x, 0, 20, Check.sealed(1, 17, 4));
        Check.due("a SETTING behind them", x.entry(0, 4, 4) * 10 + x.entry(0, 2, 4), 1);
        Check.burn(x, 0, 24, 1, 17, 5, 0);
        Check.due("not a BAD one", x.entry(0, 5, 4) * 10 + x.entry(0, 4, 4), 20);
        Check.burn(x, 0, 28, Check.sealed(1, 49, 6));
        Check.due("not an IDLE one", x.entry(0, 6, 4) * 10 + x.entry(0, 4, 4), 30);
        Check.burn(x, 0, 32, Check.sealed(63, 65, 1));
        Check.due("COMMITTED then", x.entry(0, 6, 4) * 10 + x.entry(0, 4, 4), 1);
        Check.burn(x, 0, 36, Check.sealed(32, 43, 0, 0, 9));
        Check.burn(x, 0, 50, Check.sealed(32, 43, 0, 0, 8));
        Check.due("of two COUNTERS the last", x.entry(0, 9, 4) * 10 + x.entry(0, 8, 4), 1);
        Check.due("on()", x.on(), 2);
        Check.due("get(1)", x.get(1), 6);
        Check.due("get(32)", x.get(32), 8);
        SettingStore y = Check.made(2, 64);
        Check.burnHead(y, 0, 63, 1);
        Check.burn(y, 0, 4, 1, 17, 1, 0);
        Check.due("on() with a BAD one alone", y.on(), 0);
        Check.due("get", y.get(1), -4);
    }

    private static void atOfOthers() {
        Check.sentence("at: A byte; NoSuchElementException: no such one");
        SettingStore x = Check.made(2, 32);
        int[][] others = {{-1, 0}, {2, 0}, {0, -1}, {1, -1}, {0, 32}, {1, 32}, {2, 32}, {-1, -1}};
        for (int[] sp : others) {
            Check.noSuchByte(x, sp[0], sp[1]);
        }
        for (int far : FAR) {
            Check.noSuchByte(x, far, 0);
            Check.noSuchByte(x, 0, far);
            Check.noSuchByte(x, far, far);
        }
        x.rot(0, 0, 1);
        x.rot(0, 31, 2);
        x.rot(1, 0, 3);
        x.rot(1, 31, 4);
        int[][] edges = {{0, 0, 1}, {0, 31, 2}, {1, 0, 3}, {1, 31, 4}, {0, 30, 255}, {1, 1, 255}};
        for (int[] e : edges) {
            Check.due("at(" + e[0] + ", " + e[1] + ")", x.at(e[0], e[1]), e[2]);
        }
        Class<?> thrown = null;
        try {
            x.at(0, 32);
        } catch (RuntimeException e) {
            thrown = e.getClass();
        }
        Check.due("just this class", thrown == NoSuchElementException.class, true);
    }

    private static void alsoWhileOff() {
        Check.sentence("what is on the chip (also while OFF)");
        SettingStore x = Check.running(2, 32);
        x.set(1, 1, 1);
        for (int round = 0; round < 2; round++) {
            Check.due("at", x.at(0, 4), 1);
            Check.due("sector", x.sector(0, 0), 63);
            Check.due("entry", x.entry(0, -1, 0), 1);
            Check.due("entry", x.entry(0, 0, 4), 0);
            Check.due("space", x.space(0, 0), 8);
            Check.due("space", x.space(0, 2), 4);
            Check.noSuchByte(x, 0, 32);
            x.off();
        }
    }

    private static void sectorOfOthers() {
        Check.sentence("sector: NONE: others");
        SettingStore x = Check.running(2, 32);
        for (int what = 0; what < 5; what++) {
            Check.due("sector(-1, " + what + ")", x.sector(-1, what), -1);
            Check.due("sector(2, " + what + ")", x.sector(2, what), -1);
            Check.due("of the last there is an answer", x.sector(1, what) >= 0, true);
        }
        Check.due("sector(0, -1)", x.sector(0, -1), -1);
        Check.due("sector(0, 5)", x.sector(0, 5), -1);
        for (int far : FAR) {
            Check.due("sector(" + far + ", 0)", x.sector(far, 0), -1);
            Check.due("sector(0, " + far + ")", x.sector(0, far), -1);
        }
        x.off();
        Check.due("sector(-1, 4) while OFF: NONE is no SECTOR", x.sector(-1, 4), -1);
    }

    private static void sectorAsItsBytesTell() {
        Check.sentence("sector: 0: STATE, 1: NUMBER (as its bytes tell)");
        SettingStore x = Check.made(2, 32);
        Check.due("of an empty one", x.sector(1, 1), 65535);
        Check.burn(x, 1, 0, 17, 1, 2, 0);
        Check.due("of a wrong CHECK", x.sector(1, 1), 258);
        Check.due("a STATE that is none", x.sector(1, 0), 17);
        x.rot(1, 0, 0);
        x.rot(1, 1, 0);
        x.rot(1, 2, 0);
        Check.due("STATE 0", x.sector(1, 0), 0);
        Check.due("NUMBER 0", x.sector(1, 1), 0);
    }

    private static void sectorAllBytes() {
        Check.sentence("sector: 3: 1 all bytes are 255");
        for (int p : new int[] {0, 3, 4, 30, 31}) {
            SettingStore x = Check.made(2, 32);
            Check.due("all are", x.sector(0, 3), 1);
            x.rot(0, p, 254);
            Check.due("one bit at " + p, x.sector(0, 3), 0);
            Check.due("of the other", x.sector(1, 3), 1);
        }
    }

    private static void sectorInUse() {
        Check.sentence("sector: 4: 1 it is in use (0 while OFF)");
        SettingStore x = new SettingStore();
        int[] ahead = {0, 0, 0};
        int[] first = {1, 0, 0};
        int[] second = {0, 1, 0};
        inUse(x, ahead);
        x.on();
        inUse(x, first);
        x.hand();
        inUse(x, second);
        x.off();
        inUse(x, ahead);
    }

    private static void inUse(SettingStore x, int[] want) {
        for (int s = 0; s < want.length; s++) {
            Check.due("sector(" + s + ", 4)", x.sector(s, 4), want[s]);
        }
    }

    private static void entryHowMany() {
        Check.sentence("entry: how many ENTRIES of a SECTOR (i NONE)");
        SettingStore x = Check.made(2, 128);
        Check.due("none", x.entry(1, -1, 0), 0);
        for (int i = 0; i < 41; i++) {
            Check.burn(x, 1, 4 + 3 * i, Check.sealed(0, 16));
        }
        Check.due("as many as go in", x.entry(1, -1, 0), 41);
        Check.due("the last", x.entry(1, 40, 0), 124);
        Check.due("none such", x.entry(1, 41, 0), -1);
        x.rot(1, 127, 0);
        Check.due("with a byte LOST", x.entry(1, -1, 0), 41);
        Check.due("LOST", x.space(1, 1), 1);
        SettingStore y = Check.made(2, 32);
        Check.burn(y, 0, 4, 1, 17, 1, 0);
        Check.burn(y, 0, 8, Check.sealed(1, 49, 1));
        Check.due("BAD ones and IDLE ones, too", y.entry(0, -1, 0), 2);
        Check.burn(y, 0, 12, 99);
        Check.due("not what is LOST", y.entry(0, -1, 0), 2);
    }

    private static void entryOfOthers() {
        Check.sentence("entry: NONE: others, none such");
        SettingStore x = Check.running(2, 32);
        x.set(1, 1, 1);
        x.set(2, 1, 1);
        int[][] others = {{-1, 0, 0}, {2, 0, 0}, {-1, -1, 0}, {2, -1, 0}, {0, 2, 0}, {0, -2, 0}, {1, 0, 0}, {0, 0, -1},
            {0, 0, 5}, {0, 1, -1}, {0, 1, 5}, {0, 2, 5}};
        for (int[] e : others) {
            Check.due("entry(" + e[0] + ", " + e[1] + ", " + e[2] + ")", x.entry(e[0], e[1], e[2]), -1);
        }
        for (int far : FAR) {
            Check.due("entry(" + far + ", 0, 0)", x.entry(far, 0, 0), -1);
            Check.due("entry(0, " + far + ", 0)", x.entry(0, far, 0), -1);
            Check.due("entry(0, 0, " + far + ")", x.entry(0, 0, far), -1);
        }
        Check.due("the first", x.entry(0, 0, 0), 4);
        Check.due("the last", x.entry(0, 1, 0), 8);
    }

    private static void entryWhat() {
        Check.sentence("entry: 0: its place, 1: TAG (63: a COMMIT), 2: what it is, 3: how many bytes it has");
        SettingStore x = Check.made(2, 128);
        int[][] rows = {{0, 16}, {31, 20, 1, 1, 1, 1}, {32, 43, 0, 0, 0}, {47, 43, 0, 0, 0}, {0, 48},
            {31, 52, 1, 1, 1, 1}, {63, 65, 2}};
        int[] kinds = {0, 0, 1, 1, 2, 2, 3};
        int[] sizes = {3, 7, 14, 14, 3, 7, 4};
        int[] marks = {1, 1, 0, 0, 0, 0, 0};
        int place = 4;
        for (int i = 0; i < rows.length; i++) {
            Check.burn(x, 1, place, Check.sealed(rows[i]));
            place += sizes[i];
        }
        place = 4;
        for (int i = 0; i < rows.length; i++) {
            int[] want = {place, rows[i][0], kinds[i], sizes[i], marks[i]};
            for (int what = 0; what < 5; what++) {
                Check.due("entry(1, " + i + ", " + what + ")", x.entry(1, i, what), want[what]);
            }
            place += sizes[i];
        }
    }

    private static void spaceOfOthers() {
        Check.sentence("space: NONE: others");
        SettingStore x = Check.running(2, 32);
        for (int what = 0; what < 4; what++) {
            Check.due("space(-1, " + what + ")", x.space(-1, what), -1);
            Check.due("space(2, " + what + ")", x.space(2, what), -1);
            Check.due("space(1, " + what + ")", x.space(1, what), what == 0 ? 4 : 0);
        }
        Check.due("space(0, -1)", x.space(0, -1), -1);
        Check.due("space(0, 4)", x.space(0, 4), -1);
        for (int far : FAR) {
            Check.due("space(" + far + ", 0)", x.space(far, 0), -1);
            Check.due("space(0, " + far + ")", x.space(0, far), -1);
        }
    }

    private static void spaceOfNone() {
        Check.sentence("space: where FREE bytes begin (B: none); 1: how many bytes are LOST in its TAIL");
        for (int b : new int[] {32, 64, 128}) {
            SettingStore x = Check.made(2, b);
            Check.burnDead(x, 0, 4, b - 5);
            Check.due("one byte is FREE", x.space(0, 0), b - 1);
            Check.due("LOST", x.space(0, 1), 0);
            x.rot(0, b - 1, 127);
            Check.due("none", x.space(0, 0), b);
            Check.due("LOST", x.space(0, 1), 1);
            SettingStore y = Check.made(2, b);
            Check.burnLive(y, 0, 4, b - 4);
            Check.due("full", y.space(0, 0), b);
            Check.due("LOST", y.space(0, 1), 0);
            SettingStore z = Check.made(2, b);
            z.rot(0, 4, 0);
            Check.due("none", z.space(0, 0), b);
            Check.due("all are LOST", z.space(0, 1), b - 4);
        }
    }

    private static void spaceOfEntries() {
        Check.sentence("space: 2: bytes of ENTRIES that are NEWEST with a value; 3: bytes of all other ENTRIES");
        SettingStore x = Check.made(2, 128);
        Check.burn(x, 0, 4, Check.sealed(1, 17, 1));
        Check.burn(x, 0, 8, Check.sealed(1, 18, 1, 1));
        Check.burn(x, 0, 13, Check.sealed(2, 17, 1));
        Check.burn(x, 0, 17, Check.sealed(2, 16));
        Check.burn(x, 0, 20, 3, 17, 1, 0);
        Check.burn(x, 0, 24, Check.sealed(32, 43, 0, 0, 0));
        Check.burn(x, 0, 38, Check.sealed(4, 51, 1, 1, 1));
        Check.burn(x, 0, 44, Check.sealed(63, 65, 1));
        Check.burn(x, 0, 48, Check.sealed(5, 49, 1));
        Check.burn(x, 0, 52, 200);
        Check.due("5 and 14 and 6", x.space(0, 2), 25);
        Check.due("4, 4, 3, 4, 4, 4; not what is LOST", x.space(0, 3), 23);
        Check.due("LOST", x.space(0, 1), 76);
        SettingStore y = Check.made(2, 128);
        Check.burnLive(y, 0, 4, 124);
        Check.due("all of it", y.space(0, 2), 124);
        Check.due("none", y.space(0, 3), 0);
        SettingStore z = Check.made(2, 128);
        Check.burnDead(z, 0, 4, 124);
        Check.due("none", z.space(0, 2), 0);
        Check.due("all of it", z.space(0, 3), 124);
    }
}
