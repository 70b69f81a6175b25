/** Promises 1 to 5 and 15, and the Terms' sentences on characters, text, stream and OUT: each edge of them. */
public final class RowEdgesTest {
    private static final Due DUE = new Due("RowEdgesTest");
    private static final int TEXT = 160;
    private static final int STREAM = 64;

    public static void main(String[] args) {
        newObject();
        usedFor512Calls();
        writeOfEachCode();
        writeLeavesZerosOut();
        writeLowestFirst();
        writeAddsNone();
        writeUpTo160();
        wipeCounts();
        feedOneToEight();
        feedLowestFirst();
        feedOfEachByte();
        feedUpTo64();
        drainCounts();
        outFromFirstToLast();
        outOf400();
        DUE.end();
    }

    private static long repeated(int code, int count) {
        long all = 0;
        for (int i = 0; i < count; i++) {
            all = all << 8 | code;
        }
        return all;
    }

    /** Promise 1: "No versions; text, stream and out are empty." */
    private static void newObject() {
        for (int subject = 0; subject < 4; subject++) {
            DUE.is("versions", 0, new SchemaDesk().versions(subject));
            DUE.is("a first version", Due.ARGUMENT, new Desk().print(subject, 0, false));
        }
        DUE.is("text", 0, new SchemaDesk().wipe());
        DUE.is("stream", 0, new SchemaDesk().drain());
        DUE.is("out", Due.INDEX, new Desk().out(0));
        DUE.is("place", -1, new SchemaDesk().place());
        DUE.is("register of the text", Due.ARGUMENT, new Desk().register(0));
    }

    /** "An object is used for at most 512 calls after it has been made": the last one answers as the first did. */
    private static void usedFor512Calls() {
        SchemaDesk desk = new SchemaDesk();
        int calls = 0;
        String types = "NBILSA";
        for (int i = 0; i < 24; i++) {
            desk.write(types.charAt(i % 6) == 'A' ? 0x4E41L : types.charAt(i % 6));
            DUE.is("register", i % 6, desk.register(i / 6));
            calls += 2;
        }
        while (calls < 508) {
            desk.write(calls % 4 == 0 ? 'T' : 'F');
            desk.encode(3, 1);
            DUE.is("out in call " + calls, calls % 4 == 0 ? 1 : 0, desk.out(0));
            DUE.is("place in call " + calls, -1, desk.place());
            calls += 4;
        }
        desk.feed(0x0F_FFFF_FFFEL, 5);
        DUE.is("call 510", 10, desk.decode(2, 2, 3));
        DUE.is("call 511", (int) '2', desk.out(0));
        DUE.is("call 512", (int) '7', desk.out(9));
    }

    /** Promise 2: "False ... when another byte is no character": each code in each of the eight bytes. */
    private static void writeOfEachCode() {
        for (int at = 0; at < 8; at++) {
            for (int code = 0; code < 256; code++) {
                SchemaDesk desk = new SchemaDesk();
                boolean right = code == 0 || code >= 32 && code <= 126;
                long others = 0x4141_4141_4141_4141L & ~(255L << 8 * at);
                DUE.is("write of code " + code + " at " + at, right, desk.write(others | (long) code << 8 * at));
                DUE.is("how many", !right ? 0 : code == 0 ? 7 : 8, desk.wipe());
            }
        }
    }

    /** Promise 2: "bytes 0 are left out" */
    private static void writeLeavesZerosOut() {
        for (int mask = 0; mask < 256; mask++) {
            long characters = 0;
            for (int i = 0; i < 8; i++) {
                characters |= (mask >> i & 1) == 1 ? (long) 'A' << 8 * i : 0;
            }
            SchemaDesk desk = new SchemaDesk();
            DUE.is("write", true, desk.write(characters));
            DUE.is("how many of " + mask, Integer.bitCount(mask), desk.wipe());
        }
        Desk desk = new Desk();
        desk.register(0, "S");
        desk.inner.write(0x22_0000_6100_2200L);
        DUE.is("encode", 2, desk.encode(0, 0));
        DUE.is("bytes", "[2, 97]", desk.numbers());
    }

    /** Promise 2: "the lowest first" */
    private static void writeLowestFirst() {
        Desk desk = new Desk();
        desk.register(0, "S");
        desk.inner.write(0x3635_3433_3231_3022L);
        desk.inner.write(0x22_3837L);
        DUE.is("encode", 10, desk.encode(0, 0));
        DUE.is("bytes", "[18, 48, 49, 50, 51, 52, 53, 54, 55, 56]", desk.numbers());
    }

    /** Promise 2: "False, adding none" */
    private static void writeAddsNone() {
        Desk desk = new Desk();
        desk.register(0, "S");
        desk.say("\"ab");
        DUE.is("write of a wrong last byte", false, desk.inner.write(0x7F63_6363_6363_6363L));
        DUE.is("write of a wrong first byte", false, desk.inner.write(0x6363_6363_6363_631FL));
        desk.say("\"");
        DUE.is("encode", 3, desk.encode(0, 0));
        DUE.is("bytes", "[4, 97, 98]", desk.numbers());
    }

    /** Promise 2: "or there would be more than 160": for each count that is left, and each that is added. */
    private static void writeUpTo160() {
        for (int left = 0; left <= 9; left++) {
            for (int added = 0; added <= 8; added++) {
                SchemaDesk desk = new SchemaDesk();
                for (int i = 0; i < TEXT - left; i++) {
                    desk.write('A');
                }
                boolean fits = added <= left;
                // The zeros above them do not count.
                DUE.is("write of " + added + " where " + left + " are left", fits, desk.write(repeated('A', added)));
                DUE.is("how many", fits ? TEXT - left + added : TEXT - left, desk.wipe());
            }
        }
        SchemaDesk full = new SchemaDesk();
        for (int i = 0; i < 20; i++) {
            DUE.is("eight at a time", true, full.write(repeated('~', 8)));
        }
        DUE.is("one more", false, full.write(' '));
        DUE.is("none", true, full.write(0));
        DUE.is("wipe", 160, full.wipe());
        DUE.is("there is room again", true, full.write(repeated('~', 8)));
        DUE.is("wipe", 8, full.wipe());
    }

    /** Promise 3: "Makes the text empty: how many characters it had." */
    private static void wipeCounts() {
        SchemaDesk desk = new SchemaDesk();
        for (int count = 0; count <= TEXT; count++) {
            for (int i = 0; i < count; i++) {
                desk.write(' ');
            }
            DUE.is("wipe", count, desk.wipe());
            DUE.is("wipe of nothing", 0, desk.wipe());
        }
        desk.feed(0, 8);
        desk.wipe();
        DUE.is("the stream stays", 8, desk.drain());
    }

    /** Promise 4: "False, adding none, when n is not 1 .. 8" */
    private static void feedOneToEight() {
        SchemaDesk desk = new SchemaDesk();
        for (int n = 1; n <= 8; n++) {
            DUE.is("feed of " + n, true, desk.feed(-1, n));
            DUE.is("drain", n, desk.drain());
        }
        for (int n : new int[] {0, -1, 9, 10, 64, 256, 257, Integer.MAX_VALUE, Integer.MIN_VALUE}) {
            DUE.is("feed of " + n, false, desk.feed(0, n));
            DUE.is("drain", 0, desk.drain());
        }
    }

    /** Promise 4: "Adds n bytes of a long, the lowest first" */
    private static void feedLowestFirst() {
        String[] values = {"[4]", "[4,5]", "[4,5,6]", "[4,5,6,7]", "[4,5,6,7,8]", "[4,5,6,7,8,9]", "[4,5,6,7,8,9,10]",
            "[4,5,6,7,8,9,10,11]"};
        Desk desk = new Desk();
        desk.register(0, "AI");
        for (int n = 1; n <= 8; n++) {
            desk.inner.feed(2 * n, 1);
            desk.inner.feed(0x1614_1210_0E0C_0A08L, n);
            desk.inner.feed(0x7700L, 1);
            DUE.is("decode", values[n - 1].length(), desk.decode(0, 0, 0));
            DUE.is("value of " + n + " bytes", values[n - 1], desk.shown());
        }
    }

    /** "bytes 0 .. 255": each of them comes through, at each of the eight places of a long. */
    private static void feedOfEachByte() {
        for (int at = 0; at < 8; at++) {
            for (int b = 0; b < 256; b++) {
                Desk desk = new Desk();
                desk.register(0, "AI");
                desk.give(2 * (at + 1));
                desk.inner.feed((long) b << 8 * at, at + 1);
                // From 128 on one more byte, here of the figure 128, must follow: so z is the byte again.
                desk.give(b < 128 ? new int[] {0} : new int[] {1, 0});
                desk.decode(0, 0, 0);
                int number = b % 2 == 0 ? b / 2 : -(b + 1) / 2;
                DUE.is("byte " + b + " at " + at, "[" + "0,".repeat(at) + number + "]", desk.shown());
            }
        }
    }

    /** Promise 4: "or there would be more than 64": for each count that is left, and each that is added. */
    private static void feedUpTo64() {
        for (int left = 0; left <= 9; left++) {
            for (int added = 1; added <= 8; added++) {
                SchemaDesk desk = new SchemaDesk();
                for (int i = 0; i < STREAM - left; i++) {
                    desk.feed(0, 1);
                }
                boolean fits = added <= left;
                DUE.is("feed of " + added + " where " + left + " are left", fits, desk.feed(0, added));
                DUE.is("how many", fits ? STREAM - left + added : STREAM - left, desk.drain());
            }
        }
        SchemaDesk full = new SchemaDesk();
        for (int i = 0; i < 8; i++) {
            DUE.is("eight at a time", true, full.feed(-1, 8));
        }
        DUE.is("one more", false, full.feed(0, 1));
        DUE.is("drain", 64, full.drain());
        DUE.is("there is room again", true, full.feed(0, 1));
        DUE.is("drain", 1, full.drain());
    }

    /** Promise 5: "Makes the stream empty: how many bytes it had." */
    private static void drainCounts() {
        SchemaDesk desk = new SchemaDesk();
        for (int count = 0; count <= STREAM; count++) {
            for (int i = 0; i < count; i++) {
                desk.feed(255, 1);
            }
            DUE.is("drain", count, desk.drain());
            DUE.is("drain of nothing", 0, desk.drain());
        }
        desk.write(repeated('A', 8));
        desk.drain();
        DUE.is("the text stays", 8, desk.wipe());
    }

    /** Promise 15: "Number i of OUT. Index out of bounds: there is none." */
    private static void outFromFirstToLast() {
        Desk desk = new Desk();
        desk.register(0, "AI");
        for (int i : new int[] {0, -1, 1, Integer.MAX_VALUE, Integer.MIN_VALUE}) {
            DUE.is("out " + i + " while it is empty", Due.INDEX, desk.out(i));
        }
        desk.encode(0, 0, "[1,-1,300]");
        int[] due = {6, 2, 1, 216, 4, 0};
        for (int i = 0; i < due.length; i++) {
            DUE.is("out " + i, due[i], desk.out(i));
        }
        for (int i : new int[] {-1, 6, 7, 64, 400, Integer.MAX_VALUE, Integer.MIN_VALUE}) {
            DUE.is("out " + i, Due.INDEX, desk.out(i));
        }
        desk.encode(0, 0, "[]");
        DUE.is("out 0", 0, desk.out(0));
        DUE.is("what was there before", Due.INDEX, desk.out(1));
    }

    /** Promise 15: the longest OUT there can be has numbers 0 .. 399. */
    private static void outOf400() {
        Desk desk = new Desk();
        desk.register(0, "R(a:AAN,b:S,c:I)");
        desk.give(18);
        for (int i = 0; i < 9; i++) {
            desk.give(40, 0);
        }
        desk.give(0, 24);
        for (int i = 0; i < 12; i++) {
            desk.give('x');
        }
        desk.give(99);
        DUE.is("decode", 400, desk.decode(0, 0, 0));
        DUE.is("out 0", (int) '{', desk.out(0));
        DUE.is("out 398", (int) '0', desk.out(398));
        DUE.is("out 399", (int) '}', desk.out(399));
        DUE.is("out 400", Due.INDEX, desk.out(400));
    }
}
