/** Promises 16 to 19: at, sector, entry, space. */
public final class OnTheChipTest {
    public static void main(String[] args) {
        at();
        sector();
        entryRefused();
        kindsAndBounds();
        badOnes();
        commits();
        commitsThatDoNotCount();
        tails();
        fullSectors();
        Check.finish("OnTheChipTest");
    }

    private static void at() {
        SettingStore x = Check.made(2, 32);
        int[][] none = {{-1, 0}, {2, 0}, {0, -1}, {0, 32}, {1, 32}, {Integer.MIN_VALUE, 0},
            {0, Integer.MAX_VALUE}, {Integer.MAX_VALUE, Integer.MAX_VALUE}};
        for (int[] sp : none) {
            Check.noSuchByte(x, sp[0], sp[1]);
        }
        Check.burn(x, 1, 31, 77);
        Check.due("at(1, 31)", x.at(1, 31), 77);
        Check.due("at(1, 0)", x.at(1, 0), 255);
        x.on();
        Check.due("at(0, 0)", x.at(0, 0), 63);
        Check.due("at(1, 31)", x.at(1, 31), 255);
    }

    private static void sector() {
        SettingStore x = Check.made(3, 32);
        Check.due("STATE none", x.sector(2, 0), 255);
        Check.due("NUMBER of none", x.sector(2, 1), 65535);
        Check.due("blank", x.sector(2, 3), 1);
        Check.burn(x, 2, 0, 9, 8, 7, 6);
        Check.due("STATE", x.sector(2, 0), 9);
        Check.due("NUMBER as its bytes tell", x.sector(2, 1), 8 * 256 + 7);
        Check.due("ERASES", x.sector(2, 2), 0);
        Check.due("not blank", x.sector(2, 3), 0);
        Check.due("not in use", x.sector(2, 4), 0);
        x.on();
        Check.due("STATE ACTIVE", x.sector(0, 0), 63);
        Check.due("ERASES", x.sector(2, 2), 1);
        Check.due("in use", x.sector(0, 4), 1);
        Check.due("not in use", x.sector(1, 4), 0);
        x.off();
        Check.due("not while OFF", x.sector(0, 4), 0);
        x.on();
        x.power(5, 255);
        x.hand();
        Check.due("ACTIVE by the last bit", x.sector(1, 0), 63);
        int[][] none = {{-1, 0}, {3, 0}, {0, -1}, {0, 5}, {Integer.MIN_VALUE, 0}, {0, Integer.MAX_VALUE}};
        for (int[] sw : none) {
            Check.due("sector(" + sw[0] + ", " + sw[1] + ")", x.sector(sw[0], sw[1]), -1);
            Check.due("space", x.space(sw[0], sw[1]), -1);
        }
    }

    private static void entryRefused() {
        SettingStore x = Check.running(2, 32);
        x.set(1, 1, 1);
        int[][] none = {{-1, 0, 0}, {2, 0, 0}, {2, -1, 0}, {-1, -1, 0}, {0, -2, 0}, {0, 1, 0}, {0, 0, -1}, {0, 0, 5},
            {1, 0, 0}, {Integer.MAX_VALUE, 0, 0}, {0, Integer.MAX_VALUE, 0}, {0, Integer.MIN_VALUE, 0}};
        for (int[] e : none) {
            Check.due("entry(" + e[0] + ", " + e[1] + ", " + e[2] + ")", x.entry(e[0], e[1], e[2]), -1);
        }
        Check.due("of a blank one", x.entry(1, -1, 0), 0);
        Check.due("space(0, 4)", x.space(0, 4), -1);
        x.off();
        Check.due("also while OFF", x.entry(0, -1, 0), 1);
        Check.due("also while OFF", x.space(0, 0), 8);
    }

    /** All of place, TAG, kind, bytes and mark of an ENTRY. */
    private static void entry(SettingStore x, int i, int... want) {
        for (int what = 0; what < want.length; what++) {
            Check.due("entry(0, " + i + ", " + what + ")", x.entry(0, i, what), want[what]);
        }
    }

    private static void kindsAndBounds() {
        SettingStore x = Check.made(2, 128);
        Check.burn(x, 0, 4, Check.sealed(0, 16));
        Check.burn(x, 0, 7, Check.sealed(31, 20, 1, 2, 3, 4));
        Check.burn(x, 0, 14, Check.sealed(32, 43, 0, 0, 9));
        Check.burn(x, 0, 28, Check.sealed(47, 43, 0, 0, 9));
        Check.burn(x, 0, 42, Check.sealed(0, 48));
        Check.burn(x, 0, 45, Check.sealed(31, 52, 1, 2, 3, 4));
        Check.burn(x, 0, 52, Check.sealed(63, 65, 1));
        Check.due("ENTRIES", x.entry(0, -1, 0), 7);
        entry(x, 0, 4, 0, 0, 3, 0);
        entry(x, 1, 7, 31, 0, 7, 1);
        entry(x, 2, 14, 32, 1, 14, 0);
        entry(x, 3, 28, 47, 1, 14, 0);
        entry(x, 4, 42, 0, 2, 3, 3);
        entry(x, 5, 45, 31, 2, 7, 0);
        entry(x, 6, 52, 63, 3, 4, 0);
        Check.due("FREE", x.space(0, 0), 56);
        Check.due("LOST", x.space(0, 1), 0);
        Check.due("NEWEST with a value", x.space(0, 2), 14 + 14 + 7);
        Check.due("all others", x.space(0, 3), 3 + 7 + 3 + 4);
        int[][] others = {{32, 16}, {31, 21}, {31, 15}, {31, 43}, {32, 42}, {32, 44}, {48, 43}, {31, 47}, {31, 53},
            {32, 48}, {63, 64}, {63, 66}, {62, 65}, {64, 65}, {255, 16}, {0, 255}};
        for (int[] two : others) {
            SettingStore y = Check.made(2, 64);
            Check.burn(y, 0, 4, Check.sealed(3, 17, 1));
            Check.burn(y, 0, 8, two);
            Check.burn(y, 0, 10, 1, 2, 3);
            Check.due("no ENTRY: " + two[0] + ", " + two[1], y.entry(0, -1, 0), 1);
            Check.due("no FREE ones", y.space(0, 0), 64);
            Check.due("LOST", y.space(0, 1), 56);
            Check.due("ENTRIES ahead of it", y.space(0, 2), 4);
        }
    }

    private static void badOnes() {
        SettingStore x = Check.made(2, 64);
        Check.burnHead(x, 0, 63, 1);
        Check.burn(x, 0, 4, Check.sealed(3, 17, 1));
        Check.burn(x, 0, 8, 3, 17, 2, 0);
        Check.burn(x, 0, 12, 32, 43, 0, 0, 1, 0);
        Check.burn(x, 0, 26, 4, 49, 1, 0);
        Check.burn(x, 0, 30, 63, 65, 1, 0);
        Check.burn(x, 0, 34, Check.sealed(33, 43, 0, 0, 1));
        Check.burn(x, 0, 40, 0, 0, 0, 0, 0, 0, 0, 0);
        int[] marks = {0, 2, 2, 2, 2, 0};
        for (int i = 0; i < marks.length; i++) {
            Check.due("mark of " + i, x.entry(0, i, 4), marks[i]);
        }
        Check.due("on", x.on(), 2);
        Check.due("the BAD one does not count", x.get(3), 1);
        Check.due("nor does this", x.get(32), -4);
        Check.due("all bits cleared", x.get(33), 65);
        Check.due("NEWEST with a value", x.space(0, 2), 18);
        Check.due("all others", x.space(0, 3), 4 + 14 + 4 + 4);
    }

    private static void commits() {
        SettingStore x = Check.made(2, 64);
        Check.burnHead(x, 0, 63, 1);
        Check.burn(x, 0, 4, Check.sealed(1, 49, 1));
        Check.burn(x, 0, 8, 2, 49, 2, 0);
        Check.burn(x, 0, 12, Check.sealed(3, 49, 3));
        Check.burn(x, 0, 16, Check.sealed(3, 49, 4));
        Check.burn(x, 0, 20, Check.sealed(63, 65, 2));
        Check.burn(x, 0, 24, Check.sealed(63, 65, 1));
        Check.burn(x, 0, 28, Check.sealed(5, 48));
        Check.burn(x, 0, 31, Check.sealed(63, 65, 1));
        int[] marks = {3, 2, 1, 0, 0, 3, 0, 0};
        for (int i = 0; i < marks.length; i++) {
            Check.due("mark of " + i, x.entry(0, i, 4), marks[i]);
        }
        Check.due("on", x.on(), 1);
        Check.due("get(3)", x.get(3), 4);
        Check.due("history", x.history(3, 1), 3);
        Check.due("get(1)", x.get(1), -4);
        Check.due("history of one of LENGTH 0", x.history(5, 0), -4);
        Check.due("how many", x.history(5, -1), 1);
        Check.due("NEWEST with a value", x.space(0, 2), 4);
        Check.due("all others", x.space(0, 3), 27);
    }

    private static void commitsThatDoNotCount() {
        int[] told = {0, 9, 255, 3};
        for (int parts : told) {
            SettingStore x = Check.made(2, 64);
            Check.burn(x, 0, 4, Check.sealed(1, 49, 1));
            Check.burn(x, 0, 8, Check.sealed(1, 17, 1));
            Check.burn(x, 0, 12, Check.sealed(2, 49, 1));
            Check.burn(x, 0, 16, Check.sealed(3, 49, 1));
            Check.burn(x, 0, 20, Check.sealed(63, 65, parts));
            int[] marks = {3, 0, 3, 3, 3};
            for (int i = 0; i < marks.length; i++) {
                Check.due("COMMIT of " + parts + ", mark of " + i, x.entry(0, i, 4), marks[i]);
            }
        }
        SettingStore x = Check.made(2, 64);
        Check.burn(x, 0, 4, Check.sealed(1, 49, 1));
        Check.burn(x, 0, 8, 2, 49, 1, 1);
        Check.burn(x, 0, 12, Check.sealed(63, 65, 2));
        Check.due("a BAD PART: mark of 0", x.entry(0, 0, 4), 3);
        Check.due("a BAD PART: mark of 1", x.entry(0, 1, 4), 2);
        Check.due("a BAD PART: mark of 2", x.entry(0, 2, 4), 3);
        SettingStore y = Check.made(2, 64);
        Check.burn(y, 0, 4, Check.sealed(63, 65, 1));
        Check.due("no PART at all", y.entry(0, 0, 4), 3);
        Check.due("its TAG", y.entry(0, 0, 1), 63);
    }

    private static void tails() {
        for (int room = 1; room <= 14; room++) {
            SettingStore x = Check.made(2, 32);
            int from = 32 - room;
            int place = 4;
            while (from - place > 7) {
                Check.burn(x, 0, place, Check.sealed(1, 16));
                place += 3;
            }
            Check.burn(x, 0, place, filling(from - place));
            Check.burn(x, 0, from, room == 1 ? new int[] {40} : new int[] {40, 43});
            Check.due("LOST behind " + from, x.space(0, 1), room < 14 ? room : 0);
            Check.due("no FREE ones", x.space(0, 0), 32);
        }
        SettingStore x = Check.made(2, 32);
        Check.burn(x, 0, 31, 254);
        Check.due("all from the HEAD on", x.space(0, 1), 28);
        Check.due("no ENTRY", x.entry(0, -1, 0), 0);
    }

    private static int[] filling(int bytes) {
        int[] row = new int[bytes - 1];
        row[0] = 1;
        row[1] = 16 + bytes - 3;
        return Check.sealed(row);
    }

    private static void fullSectors() {
        SettingStore x = Check.made(2, 128);
        for (int i = 0; i < 41; i++) {
            Check.burn(x, 0, 4 + 3 * i, Check.sealed(i % 32, 16));
        }
        Check.due("ENTRIES", x.entry(0, -1, 0), 41);
        Check.due("FREE", x.space(0, 0), 127);
        Check.due("LOST", x.space(0, 1), 0);
        Check.burn(x, 0, 127, 3);
        Check.due("ENTRIES", x.entry(0, -1, 0), 41);
        Check.due("no FREE ones", x.space(0, 0), 128);
        Check.due("LOST", x.space(0, 1), 1);
        Check.due("the last", x.entry(0, 40, 0), 124);
        SettingStore y = Check.running(2, 128);
        for (int i = 0; i < 4; i++) {
            y.set(i, i, 1);
        }
        Check.due("bytes", y.space(0, 2), 16);
        Check.due("FREE of a blank one", y.space(1, 0), 4);
    }
}
