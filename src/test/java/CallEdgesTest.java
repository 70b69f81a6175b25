import java.util.ArrayList;
import java.util.List;
import java.util.function.Consumer;

/** Promises 6 to 14, sentence by sentence, where an edge is named that the Terms do not set. */
public final class CallEdgesTest {
    private static final Due DUE = new Due("CallEdgesTest");
    private static final String[] SIX = {"N", "B", "I", "L", "S", "AN"};
    /** Of 160 characters. */
    private static final String LONGEST = "R(" + field('a') + field('b') + field('c') + field('d') + field('e')
        + "f:AS=[\"123456789012\",\"123456789012\",\"12345678\"])";

    public static void main(String[] args) {
        modeFromZeroToSix();
        modeKeepsVersions();
        registerSameText();
        registerSameTextWithSix();
        registerEmptiesTheText();
        registerAFullText();
        versionsCounts();
        readsItself();
        printWhole();
        printBare();
        fingerprintOfTheBareText();
        fingerprintLeavesOut();
        encodeEmptiesTheText();
        decodeEmptiesTheStream();
        placeAtFirst();
        placeOfTheLatest();
        placeIsGone();
        placeIsLeft();
        DUE.end();
    }

    private static String field(char name) {
        return name + ":AS=[\"123456789012\"],";
    }

    /** Promise 6: "Illegal argument: also if mode is not 0 .. 6." */
    private static void modeFromZeroToSix() {
        Desk desk = new Desk();
        for (int subject = 0; subject < 4; subject++) {
            DUE.is("mode -1", Due.ARGUMENT, desk.mode(subject, -1));
            for (int mode = 0; mode <= 6; mode++) {
                DUE.is("mode " + mode, "done", desk.mode(subject, mode));
            }
            DUE.is("mode 7", Due.ARGUMENT, desk.mode(subject, 7));
        }
        DUE.is("mode 6 of subject 4", Due.ARGUMENT, desk.mode(4, 6));
        DUE.is("mode 0 of subject -1", Due.ARGUMENT, desk.mode(-1, 0));
    }

    /** Promise 6: "(Versions that are there stay.)" */
    private static void modeKeepsVersions() {
        for (int mode = 0; mode <= 6; mode++) {
            Desk desk = new Desk();
            for (String schema : SIX) {
                desk.register(2, schema);
            }
            desk.mode(2, mode);
            DUE.is("versions in mode " + mode, 6, desk.versions(2));
            for (int i = 0; i < 6; i++) {
                desk.print(2, i, false);
                DUE.is("version " + i, SIX[i], desk.shown());
            }
        }
    }

    /** Promise 7: "If a version of the subject has the same text, its number is the answer": whatever the mode. */
    private static void registerSameText() {
        for (int mode = 0; mode <= 6; mode++) {
            Desk desk = new Desk();
            desk.register(0, "R(a:I)");
            desk.register(0, "R(a:I=1)");
            desk.register(0, "S");
            desk.mode(0, mode);
            DUE.is("the first", 0, desk.register(0, "R(a:I)"));
            DUE.is("the second", 1, desk.register(0, "R(a:I=1)"));
            DUE.is("the latest", 2, desk.register(0, "S"));
            DUE.is("the same with another default is another one", mode == 0 ? "3" : Due.STATE, desk.register(0, "R(a:I=2)"));
            DUE.is("of the subject", 0, desk.register(1, "S"));
        }
        Desk desk = new Desk();
        desk.register(0, "AAN");
        DUE.is("a shorter text is another one", 1, desk.register(0, "AN"));
        DUE.is("a longer one too", 2, desk.register(0, "AAAN"));
        DUE.is("and one that differs at its end", 3, desk.register(0, "AAB"));
    }

    /** Promise 7: "(also if there are six)" */
    private static void registerSameTextWithSix() {
        Desk desk = new Desk();
        for (String schema : SIX) {
            desk.register(3, schema);
        }
        for (int mode = 0; mode <= 6; mode++) {
            desk.mode(3, mode);
            for (int i = 0; i < 6; i++) {
                DUE.is("same text, mode " + mode, i, desk.register(3, SIX[i]));
            }
            DUE.is("another text, mode " + mode, Due.STATE, desk.register(3, "U(N,AN)"));
            DUE.is("versions", 6, desk.versions(3));
        }
    }

    /** Promise 7: "The text is empty then." */
    private static void registerEmptiesTheText() {
        Desk desk = new Desk();
        desk.give(1, 2, 3);
        desk.say("E(abc=b)");
        DUE.is("register", 0, desk.register(0));
        DUE.is("the text of a new version", 0, desk.inner.wipe());
        DUE.is("the stream stays", 3, desk.inner.drain());
        DUE.is("out stays", Due.INDEX, desk.out(0));
        desk.say("E(abc=b)");
        DUE.is("register", 0, desk.register(0));
        DUE.is("the text of a version that was there", 0, desk.inner.wipe());
        desk.say("N");
        DUE.is("what is written then is alone", 1, desk.register(0));
        desk.print(0, 1, false);
        DUE.is("version 1", "N", desk.shown());
        desk.print(0, 0, false);
        DUE.is("version 0 has not become another one", "E(abc=b)", desk.shown());
    }

    /** Promise 7: a text of 160 characters is kept whole. */
    private static void registerAFullText() {
        DUE.is("characters", 160, LONGEST.length());
        Desk desk = new Desk();
        DUE.is("register", 0, desk.register(0, LONGEST));
        DUE.is("again", 0, desk.register(0, LONGEST));
        DUE.is("the last but one is another", 1, desk.register(0, LONGEST.replace("12345678\"]", "12345679\"]")));
        DUE.is("print", 160, desk.print(0, 0, false));
        DUE.is("text", LONGEST, desk.shown());
    }

    /** Promise 8: "How many versions a subject has": none to six. */
    private static void versionsCounts() {
        for (int subject = 0; subject < 4; subject++) {
            Desk desk = new Desk();
            for (int i = 0; i < 6; i++) {
                DUE.is("versions", i, desk.versions(subject));
                desk.register(subject, "(");
                desk.register(subject, SIX[i]);
                desk.register(subject, SIX[i]);
            }
            DUE.is("versions", 6, desk.versions(subject));
            DUE.is("versions of others", 0, desk.versions((subject + 1) % 4));
        }
    }

    /** Promise 9: "Whether a version reads another one (or itself) of the subject": the reader is named first. */
    private static void readsItself() {
        Desk desk = new Desk();
        String[] schemas = {"I", "L", "U(L,N)", LONGEST, "E(q)", "AU(N,R(a:E(q)))"};
        for (String schema : schemas) {
            desk.register(0, schema);
        }
        for (int i = 0; i < 6; i++) {
            DUE.is(schemas[i] + " reads itself", true, desk.reads(0, i, i));
        }
        DUE.is("L reads I", true, desk.reads(0, 1, 0));
        DUE.is("I reads L", false, desk.reads(0, 0, 1));
        DUE.is("U reads L", true, desk.reads(0, 2, 1));
        DUE.is("L reads U", false, desk.reads(0, 1, 2));
    }

    /** Promise 10: "OUT becomes the text of a version ... How many characters it has.": from 1 to 160. */
    private static void printWhole() {
        Desk desk = new Desk();
        desk.register(0, "N");
        desk.register(0, LONGEST);
        DUE.is("print", 160, desk.print(0, 1, false));
        DUE.is("the last", (int) ')', desk.out(159));
        DUE.is("none behind it", Due.INDEX, desk.out(160));
        DUE.is("print", 1, desk.print(0, 0, false));
        DUE.is("the first", (int) 'N', desk.out(0));
        DUE.is("none behind it", Due.INDEX, desk.out(1));
    }

    /** Promise 10: "bare: without all defaults, and the = before them. (Also those of an E.)" */
    private static void printBare() {
        String[] whole = {"N", "E(q=q)", "AE(abcdefgh=h)", "U(E(a=a),R(a:E(b=b)=b))", "R(a:S=\"=\")", "R(a:S=\"a=b,c:N)\",c:N)",
            "R(a:I=-1,b:L=0)", "R(a:R(b:R(c:I=1)={2})={{3}})", "R(a:AS=[\"]\",\")\",\"=\"],b:E(xy=x)=y)", "R(a:N,b:B=T,c:N)", LONGEST};
        String[] bare = {"N", "E(q)", "AE(abcdefgh)", "U(E(a),R(a:E(b)))", "R(a:S)", "R(a:S,c:N)",
            "R(a:I,b:L)", "R(a:R(b:R(c:I)))", "R(a:AS,b:E(xy))", "R(a:N,b:B,c:N)", "R(a:AS,b:AS,c:AS,d:AS,e:AS,f:AS)"};
        for (int i = 0; i < whole.length; i++) {
            Desk desk = new Desk();
            desk.register(0, whole[i]);
            DUE.is("print bare", bare[i].length(), desk.print(0, 0, true));
            DUE.is("bare text", bare[i], desk.shown());
            DUE.is("print", whole[i].length(), desk.print(0, 0, false));
            DUE.is("the version has them still", whole[i], desk.shown());
        }
    }

    /** Promise 11: "The FINGERPRINT of the bare text of a version": reckoned by hand for one character. */
    private static void fingerprintOfTheBareText() {
        Desk desk = new Desk();
        desk.register(0, "N");
        desk.register(0, "E(abc=c)");
        desk.register(0, "E(abc)");
        desk.register(0, "E(acb)");
        desk.register(0, LONGEST);
        desk.register(0, "R(a:AS,b:AS,c:AS,d:AS,e:AS,f:AS)");
        long f = 0xC15D213AA4D7A795L;
        long t = (f ^ 'N') & 255;
        for (int i = 0; i < 8; i++) {
            t = t % 2 == 0 ? t >>> 1 : t >>> 1 ^ f;
        }
        DUE.is("fingerprint of N", f >>> 8 ^ t, desk.fingerprint(0, 0));
        DUE.is("a default is no part of it", desk.fingerprint(0, 2), desk.fingerprint(0, 1));
        DUE.is("the order is", false, desk.fingerprint(0, 3).equals(desk.fingerprint(0, 2)));
        DUE.is("defaults of fields are none", desk.fingerprint(0, 5), desk.fingerprint(0, 4));
    }

    /** Promise 11 fills no OUT, and empties none. */
    private static void fingerprintLeavesOut() {
        Desk desk = new Desk();
        desk.register(0, "E(abc=c)");
        desk.fingerprint(0, 0);
        DUE.is("out stays empty", Due.INDEX, desk.out(0));
        desk.print(0, 0, false);
        desk.fingerprint(0, 0);
        DUE.is("out stays", "E(abc=c)", desk.shown());
    }

    /** Promise 12: "OUT becomes its bytes; the text is empty then." */
    private static void encodeEmptiesTheText() {
        Desk desk = new Desk();
        desk.register(0, "N");
        desk.register(0, "S");
        desk.give(1, 2);
        desk.say("\"ab\"");
        DUE.is("encode", 3, desk.encode(0, 1));
        DUE.is("the text", 0, desk.inner.wipe());
        desk.say("N");
        DUE.is("encode to no bytes", 0, desk.encode(0, 0));
        DUE.is("the text", 0, desk.inner.wipe());
        DUE.is("out is empty", Due.INDEX, desk.out(0));
        DUE.is("the stream stays", 2, desk.inner.drain());
        DUE.is("the versions stay", 2, desk.versions(0));
    }

    /** Promise 13: "OUT becomes it, written as a value; the stream is empty then." */
    private static void decodeEmptiesTheStream() {
        Desk desk = new Desk();
        desk.register(0, "N");
        desk.register(0, "U(S,N)");
        desk.say("abc");
        DUE.is("decode of no bytes", 1, desk.decode(0, 0, 0));
        DUE.is("value", "N", desk.shown());
        desk.give(0, 2, 120);
        DUE.is("decode", 5, desk.decode(0, 1, 1));
        DUE.is("value", "0:\"x\"", desk.shown());
        DUE.is("the stream", 0, desk.inner.drain());
        DUE.is("the text stays", 3, desk.inner.wipe());
        DUE.is("writer and reader", 3, desk.decode(0, 0, 1));
        DUE.is("value", "1:N", desk.shown());
    }

    /** Promise 14: "-1 without such a call" */
    private static void placeAtFirst() {
        Desk desk = new Desk();
        DUE.is("place", -1, desk.inner.place());
        desk.say("(");
        desk.give(1);
        desk.register(4);
        desk.encode(0, 0);
        desk.decode(0, 0, 0);
        desk.inner.write(1);
        desk.inner.feed(0, 0);
        desk.mode(0, 7);
        desk.print(0, 0, true);
        desk.out(0);
        DUE.is("place", -1, desk.inner.place());
        desk.inner.wipe();
        desk.register(0, "S");
        desk.mode(0, 3);
        DUE.is("register that throws an illegal state", Due.STATE, desk.register(0, "N"));
        DUE.is("place", -1, desk.inner.place());
    }

    /** In subject 0 version 2 reads version 0, and no other reads another; its mode asks a new one to read version 2. */
    private static Desk withVersions() {
        Desk desk = new Desk();
        desk.register(0, "R(a:N,b:I)");
        desk.register(0, "R(b:S)");
        desk.register(0, "R(a:N,b:L)");
        desk.mode(0, 1);
        return desk;
    }

    private static void failRegister(Desk desk) {
        DUE.is("register", Due.ARGUMENT, desk.register(0, "R(a:N,b:)"));
        DUE.is("place of register", 8, desk.inner.place());
    }

    private static void failEncode(Desk desk) {
        DUE.is("encode", Due.ARGUMENT + " at 4", desk.encode(0, 0, "{N,-}"));
    }

    private static void failDecode(Desk desk) {
        DUE.is("decode", Due.ARGUMENT + " at 2", desk.decode(0, 0, 0, 128, 1, 0));
    }

    private static List<Consumer<Desk>> failing() {
        List<Consumer<Desk>> all = new ArrayList<>();
        all.add(CallEdgesTest::failRegister);
        all.add(CallEdgesTest::failEncode);
        all.add(CallEdgesTest::failDecode);
        return all;
    }

    /** Promise 14: "Of the latest call of register(), encode() or decode() that threw an illegal argument" */
    private static void placeOfTheLatest() {
        for (Consumer<Desk> first : failing()) {
            for (Consumer<Desk> second : failing()) {
                Desk desk = withVersions();
                first.accept(desk);
                second.accept(desk);
            }
        }
        Desk desk = withVersions();
        failRegister(desk);
        DUE.is("place 0 is one too", Due.ARGUMENT, desk.register(0));
        DUE.is("place", 0, desk.inner.place());
    }

    /** Promise 14: "-1 ... when one of these threw nothing since": each of them takes away what any of them left. */
    private static void placeIsGone() {
        for (Consumer<Desk> fails : failing()) {
            gone(fails, "register", desk -> DUE.is("register", 3, desk.register(0, "R(b:L)")));
            gone(fails, "register of the same text", desk -> DUE.is("register", 1, desk.register(0, "R(b:S)")));
            gone(fails, "encode", desk -> DUE.is("encode", "[9]", desk.encode(0, 0, "{N,-5}")));
            gone(fails, "decode", desk -> DUE.is("decode", "{N,-5}", desk.decode(0, 0, 2, 9)));
        }
    }

    private static void gone(Consumer<Desk> fails, String call, Consumer<Desk> goes) {
        Desk desk = withVersions();
        fails.accept(desk);
        goes.accept(desk);
        DUE.is("place behind " + call, -1, desk.inner.place());
    }

    /** Promise 14: "(A call that throws for another reason leaves it.)", and so do all other calls. */
    private static void placeIsLeft() {
        for (Consumer<Desk> fails : failing()) {
            Desk desk = withVersions();
            fails.accept(desk);
            int place = desk.inner.place();
            left(desk, place, "register of what does not get on", Due.STATE, desk.register(0, "S"));
            left(desk, place, "register in no subject", Due.ARGUMENT, desk.register(4, "("));
            left(desk, place, "encode of no version", Due.ARGUMENT, desk.encode(0, 3));
            left(desk, place, "encode in no subject", Due.ARGUMENT, desk.encode(-1, 0));
            left(desk, place, "decode from no version", Due.ARGUMENT, desk.decode(0, 3, 0));
            left(desk, place, "decode to no version", Due.ARGUMENT, desk.decode(0, 0, 3));
            desk.give(9);
            left(desk, place, "decode of what can't be resolved", Due.STATE, desk.decode(0, 0, 1));
            left(desk, place, "drain", 1, desk.inner.drain());
            left(desk, place, "write", true, desk.inner.write('N'));
            left(desk, place, "write of no character", false, desk.inner.write(7));
            left(desk, place, "wipe", 1, desk.inner.wipe());
            left(desk, place, "feed", true, desk.inner.feed(1, 1));
            left(desk, place, "feed of none", false, desk.inner.feed(1, 0));
            left(desk, place, "mode", "done", desk.mode(1, 1));
            left(desk, place, "mode 7", Due.ARGUMENT, desk.mode(1, 7));
            left(desk, place, "versions", 3, desk.versions(0));
            left(desk, place, "versions of none", Due.ARGUMENT, desk.versions(9));
            left(desk, place, "reads", true, desk.reads(0, 2, 0));
            left(desk, place, "reads of none", Due.ARGUMENT, desk.reads(0, 2, 3));
            left(desk, place, "print", 10, desk.print(0, 0, false));
            left(desk, place, "print of none", Due.ARGUMENT, desk.print(0, 3, false));
            left(desk, place, "fingerprint", desk.fingerprint(0, 0), desk.fingerprint(0, 0));
            left(desk, place, "fingerprint of none", Due.ARGUMENT, desk.fingerprint(0, 3));
            left(desk, place, "out", (int) 'R', desk.out(0));
            left(desk, place, "out of none", Due.INDEX, desk.out(10));
        }
    }

    private static void left(Desk desk, int place, String call, Object due, Object answer) {
        DUE.is(call, due, answer);
        DUE.is("place behind " + call, place, desk.inner.place());
    }
}
