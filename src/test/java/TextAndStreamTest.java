/** Promises 1 to 5 and 15: a new object, write, wipe, feed, drain, out. */
public final class TextAndStreamTest {
    private static final Due DUE = new Due("TextAndStreamTest");

    public static void main(String[] args) {
        newObject();
        write();
        writeRefuses();
        wipe();
        feed();
        drain();
        out();
        objectsAreApart();
        DUE.end();
    }

    private static void newObject() {
        Desk desk = new Desk();
        for (int subject = 0; subject < 4; subject++) {
            DUE.is("versions of a new object", 0, desk.versions(subject));
            DUE.is("reads of a new object", Due.ARGUMENT, desk.reads(subject, 0, 0));
        }
        DUE.is("place of a new object", -1, desk.inner.place());
        DUE.is("out of a new object", Due.INDEX, desk.out(0));
        DUE.is("wipe of a new object", 0, desk.inner.wipe());
        DUE.is("drain of a new object", 0, desk.inner.drain());
    }

    private static void write() {
        Desk desk = new Desk();
        DUE.is("write of nothing", true, desk.inner.write(0));
        DUE.is("wipe", 0, desk.inner.wipe());
        // Zeros are left out wherever they stand: \0 R \0 ( a \0 : N
        DUE.is("write with zeros", true, desk.inner.write(0x4E3A0061_28005200L));
        DUE.is("write", true, desk.inner.write(')'));
        DUE.is("register", 0, desk.register(0));
        desk.print(0, 0, false);
        DUE.is("text", "R(a:N)", desk.shown());
        DUE.is("write of the lowest and the highest", true, desk.inner.write(0x7E20));
        DUE.is("wipe", 2, desk.inner.wipe());
    }

    private static void writeRefuses() {
        Desk desk = new Desk();
        long[] wrong = {31, 127, 128, 255, 10, 1, 0x1F_4E, 0x7F00_4E4EL, 0x8000_0000_0000_0000L, -1L,
            0xFF00_0000_0000_004EL};
        for (long characters : wrong) {
            DUE.is("write " + characters, false, desk.inner.write(characters));
        }
        DUE.is("wipe: none was added", 0, desk.inner.wipe());
        for (int i = 0; i < 19; i++) {
            desk.say("12345678");
        }
        desk.say("123");
        DUE.is("write beyond 160", false, desk.say("123456"));
        DUE.is("write of nothing", true, desk.inner.write(0));
        DUE.is("write up to 160", true, desk.say("12345"));
        DUE.is("write to a full text", false, desk.say("1"));
        DUE.is("write of nothing to a full text", true, desk.inner.write(0));
        DUE.is("wipe", 160, desk.inner.wipe());
        DUE.is("write after wipe", true, desk.say("1"));
        DUE.is("wipe", 1, desk.inner.wipe());
    }

    private static void wipe() {
        Desk desk = new Desk();
        desk.say("N(");
        DUE.is("wipe", 2, desk.inner.wipe());
        DUE.is("wipe again", 0, desk.inner.wipe());
        desk.give(1, 2, 3);
        DUE.is("wipe leaves the stream", 0, desk.inner.wipe());
        DUE.is("drain", 3, desk.inner.drain());
        DUE.is("register of an empty text", Due.ARGUMENT, desk.register(0));
    }

    private static void feed() {
        Desk desk = new Desk();
        DUE.is("register", 0, desk.register(0, "R(a:AB,b:L)"));
        int[] wrong = {0, 9, -1, Integer.MAX_VALUE, Integer.MIN_VALUE};
        for (int n : wrong) {
            DUE.is("feed n " + n, false, desk.inner.feed(1, n));
        }
        DUE.is("drain: none was added", 0, desk.inner.drain());
        DUE.is("feed takes the lowest first, n of them", true, desk.inner.feed(0x7777_0001_0004L, 3));
        DUE.is("feed", true, desk.inner.feed(0x01_00, 2));
        DUE.is("decode", 10, desk.decode(0, 0, 0));
        DUE.is("value", "{[F,T],-1}", desk.shown());
        desk.inner.feed(0xFFFF_FFFF_FFFF_FF00L, 8);
        desk.inner.feed(0x1_FFFFL, 3);
        DUE.is("decode of eight bytes a time", 25, desk.decode(0, 0, 0));
        DUE.is("value", "{[],-9223372036854775808}", desk.shown());
    }

    private static void drain() {
        Desk desk = new Desk();
        for (int i = 0; i < 7; i++) {
            desk.inner.feed(0, 8);
        }
        DUE.is("feed", true, desk.inner.feed(0, 5));
        DUE.is("feed beyond 64", false, desk.inner.feed(0, 4));
        DUE.is("feed up to 64", true, desk.inner.feed(0, 3));
        DUE.is("feed to a full stream", false, desk.inner.feed(0, 1));
        desk.say("abc");
        DUE.is("drain", 64, desk.inner.drain());
        DUE.is("drain again", 0, desk.inner.drain());
        DUE.is("feed after drain", true, desk.inner.feed(0, 8));
        DUE.is("drain", 8, desk.inner.drain());
        DUE.is("drain leaves the text", 3, desk.inner.wipe());
    }

    private static void out() {
        Desk desk = new Desk();
        desk.register(0, "B");
        DUE.is("out while it is empty", Due.INDEX, desk.out(0));
        DUE.is("encode", "[1]", desk.encode(0, 0, "T"));
        DUE.is("out(0)", 1, desk.out(0));
        int[] wrong = {-1, 1, 400, Integer.MAX_VALUE, Integer.MIN_VALUE};
        for (int i : wrong) {
            DUE.is("out " + i, Due.INDEX, desk.out(i));
        }
        desk.register(1, "R(a:I=5)");
        desk.print(1, 0, false);
        DUE.is("out is the latest", "R(a:I=5)", desk.shown());
        DUE.is("out is made empty before", "[0]", desk.encode(0, 0, "F"));
        DUE.is("encode that throws", Due.ARGUMENT + " at 0", desk.encode(0, 0, "N"));
        DUE.is("decode that throws", Due.ARGUMENT + " at 0", desk.decode(0, 0, 0, 9));
        DUE.is("print that throws", Due.ARGUMENT, desk.print(0, 1, true));
        desk.fingerprint(1, 0);
        desk.register(1, "N");
        desk.inner.wipe();
        desk.inner.drain();
        DUE.is("out stays with calls that throw or do not fill it", "[0]", desk.numbers());
        desk.register(2, "N");
        DUE.is("encode to no bytes", "[]", desk.encode(2, 0, "N"));
    }

    private static void objectsAreApart() {
        Desk one = new Desk();
        Desk other = new Desk();
        one.register(0, "N");
        one.say("abc");
        one.give(1);
        one.print(0, 0, false);
        DUE.is("versions of another object", 0, other.versions(0));
        DUE.is("wipe of another object", 0, other.inner.wipe());
        DUE.is("drain of another object", 0, other.inner.drain());
        DUE.is("out of another object", "[]", other.numbers());
    }
}
