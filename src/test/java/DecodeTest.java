/** Promises 13 and 14: reading streams and their places, resolving, defaults, and the limit of 400 characters. */
public final class DecodeTest {
    private static final Due DUE = new Due("DecodeTest");

    public static void main(String[] args) {
        plainStreams();
        numbers();
        strings();
        counts();
        parts();
        records();
        resolvingPlain();
        resolvingSymbols();
        resolvingUnions();
        resolvingArrays();
        resolvingRecords();
        defaults();
        lengthLimit();
        manyElements();
        whatItLeaves();
        wrongInputs();
        DUE.end();
    }

    private static void read(String schema, String value, int... bytes) {
        Desk desk = new Desk();
        desk.register(0, schema);
        DUE.is(schema + " of a stream", value, desk.decode(0, 0, 0, bytes));
        DUE.is("place", -1, desk.inner.place());
    }

    private static void stuck(String schema, int place, int... bytes) {
        Desk desk = new Desk();
        desk.register(0, schema);
        DUE.is(schema + " of " + java.util.Arrays.toString(bytes), Due.ARGUMENT + " at " + place,
            desk.decode(0, 0, 0, bytes));
    }

    private static void resolve(String writer, String reader, String due, int... bytes) {
        Desk desk = new Desk();
        desk.register(0, writer);
        int to = Integer.parseInt(desk.register(0, reader));
        DUE.is(writer + " as " + reader, due, desk.decode(0, 0, to, bytes));
    }

    private static void plainStreams() {
        read("N", "N");
        stuck("N", 0, 0);
        read("B", "F", 0);
        read("B", "T", 1);
        stuck("B", 0);
        stuck("B", 0, 2);
        stuck("B", 0, 255);
        stuck("B", 1, 1, 1);
    }

    private static void numbers() {
        read("I", "-2147483648", 255, 255, 255, 255, 15);
        read("I", "64", 128, 1);
        stuck("I", 0);
        stuck("I", 1, 128);
        stuck("I", 1, 128, 0);
        stuck("I", 2, 255, 255, 0);
        stuck("I", 4, 128, 128, 128, 128);
        stuck("I", 4, 128, 128, 128, 128, 0);
        stuck("I", 4, 128, 128, 128, 128, 16);
        stuck("I", 4, 128, 128, 128, 128, 129);
        stuck("I", 1, 5, 5);
        read("L", "0", 0);
        read("L", "-9223372036854775808", 255, 255, 255, 255, 255, 255, 255, 255, 255, 1);
        read("L", "10", 20);
        read("L", "100", 200, 1);
        read("L", "-1000000000000000000", 255, 255, 159, 246, 244, 172, 219, 224, 27);
        stuck("L", 9, 255, 255, 255, 255, 255, 255, 255, 255, 255);
        stuck("L", 9, 255, 255, 255, 255, 255, 255, 255, 255, 255, 0);
        stuck("L", 9, 255, 255, 255, 255, 255, 255, 255, 255, 255, 2);
        stuck("L", 9, 255, 255, 255, 255, 255, 255, 255, 255, 255, 129, 1);
        stuck("L", 8, 255, 255, 255, 255, 255, 255, 255, 255, 0);
    }

    private static void strings() {
        read("S", "\"\"", 0);
        read("S", "\" ~\"", 4, 32, 126);
        read("S", "\"123456789012\"", 24, 49, 50, 51, 52, 53, 54, 55, 56, 57, 48, 49, 50);
        stuck("S", 0);
        stuck("S", 0, 1);
        stuck("S", 0, 26, 49);
        stuck("S", 0, 128, 1);
        stuck("S", 2, 4, 97);
        stuck("S", 1, 2, 34);
        stuck("S", 1, 2, 31);
        stuck("S", 2, 4, 97, 127);
        stuck("S", 2, 2, 97, 97);
    }

    private static void counts() {
        read("E(abc)", "c", 4);
        stuck("E(abc)", 0);
        stuck("E(abc)", 0, 6);
        stuck("E(abc=a)", 0, 1);
        stuck("E(abc)", 0, 132, 1);
        stuck("E(abc)", 1, 0, 0);
        read("U(N,B,S)", "0:N", 0);
        read("U(N,B,S)", "2:\"a\"", 4, 2, 97);
        stuck("U(N,B,S)", 0);
        stuck("U(N,B,S)", 0, 6);
        stuck("U(N,B,S)", 0, 3);
        stuck("U(N,B,S)", 1, 2);
        stuck("U(N,B,S)", 1, 2, 2);
        stuck("U(N,B,S)", 1, 0, 0);
    }

    private static void parts() {
        read("AI", "[]", 0);
        read("AI", "[1,2,3]", 6, 2, 4, 6, 0);
        read("AI", "[1,2,3]", 2, 2, 2, 4, 2, 6, 0);
        read("AI", "[1,2,3]", 4, 2, 4, 2, 6, 0);
        stuck("AI", 0);
        stuck("AI", 0, 42);
        stuck("AI", 0, 1);
        stuck("AI", 0, 130, 1);
        stuck("AI", 2, 2, 2);
        stuck("AI", 1, 0, 0);
        stuck("AI", 1, 4);
        stuck("AI", 3, 2, 2, 0, 2);
        int[] twenty = new int[21];
        java.util.Arrays.fill(twenty, 2);
        twenty[20] = 0;
        read("AN", "[" + "N,".repeat(19) + "N]", twenty);
        twenty[20] = 2;
        stuck("AN", 20, twenty);
        read("AN", "[" + "N,".repeat(19) + "N]", 2, 38, 0);
        stuck("AN", 1, 2, 40, 0);
        stuck("AN", 1, 40, 2);
        read("AAN", "[[N,N],[N]]", 4, 2, 2, 0, 2, 0, 0);
        stuck("AAN", 4, 4, 2, 2, 0, 42);
        stuck("AR(a:N)", 2, 4, 0, 2);
    }

    private static void records() {
        read("R(a:I,b:S,c:U(N,I),d:E(xyz))", "{-4,\"h\",0:N,z}", 7, 2, 104, 0, 4);
        stuck("R(a:I,b:S,c:U(N,I),d:E(xyz))", 4, 7, 2, 104, 0);
        stuck("R(a:I,b:S,c:U(N,I),d:E(xyz))", 4, 7, 2, 104, 0, 6);
        stuck("R(a:I,b:S,c:U(N,I),d:E(xyz))", 5, 7, 2, 104, 0, 4, 0);
        read("R(a:N,b:N)", "{N,N}");
        stuck("R(a:I,b:I)", 1, 128, 0, 0);
        stuck("R(a:B,b:B)", 0, 2, 0);
        stuck("R(a:S,b:N)", 1, 2);
        stuck("R(a:AB,b:N)", 1, 4, 2, 0);
        stuck("AI", 2, 4, 128, 0, 0);
    }

    private static void resolvingPlain() {
        resolve("I", "L", "-5", 9);
        resolve("L", "I", Due.STATE, 9);
        resolve("I", "S", Due.STATE, 0);
        resolve("S", "I", Due.STATE, 0);
        resolve("N", "B", Due.STATE);
        resolve("AN", "N", Due.STATE, 0);
        resolve("N", "AN", Due.STATE);
        resolve("R(a:N)", "N", Due.STATE);
        resolve("B", "E(a=a)", Due.STATE, 0);
        resolve("S", "I", Due.ARGUMENT + " at 0", 1);
    }

    private static void resolvingSymbols() {
        resolve("E(abc)", "E(cb)", "c", 4);
        resolve("E(abc)", "E(cb)", Due.STATE, 0);
        resolve("E(abc)", "E(cb=b)", "b", 0);
        resolve("E(abc)", "E(cb=b)", "c", 4);
        resolve("E(abc=a)", "E(cb)", Due.STATE, 0);
        resolve("E(abc)", "E(xyz=x)", "x", 4);
    }

    private static void resolvingUnions() {
        resolve("I", "U(N,I)", "1:3", 6);
        resolve("I", "U(L,I)", "0:3", 6);
        resolve("I", "U(I,L)", "0:3", 6);
        resolve("S", "U(N,I)", Due.STATE, 0);
        resolve("U(N,I)", "I", "3", 2, 6);
        resolve("U(N,I)", "I", Due.STATE, 0);
        resolve("U(N,I)", "L", "3", 2, 6);
        resolve("U(N,I)", "U(S,L,N)", "1:3", 2, 6);
        resolve("U(N,I)", "U(S,L,N)", "2:N", 0);
        resolve("U(N,I)", "U(S,N)", Due.STATE, 2, 6);
        resolve("E(ab)", "U(E(a),N)", Due.STATE, 0);
        resolve("E(ab)", "U(E(a=a),N)", "0:a", 2);
        resolve("AU(I,S)", "U(N,AU(S,L))", "1:[1:1,0:\"a\"]", 4, 0, 2, 2, 2, 97, 0);
        resolve("AU(I,S)", "U(N,AI)", Due.STATE, 0);
        resolve("AU(I,S)", "AI", "[]", 0);
    }

    private static void resolvingArrays() {
        resolve("AI", "AL", "[1,2,3]", 2, 2, 4, 4, 6, 0);
        resolve("AI", "AS", "[]", 0);
        resolve("AI", "AS", Due.STATE, 2, 2, 0);
        resolve("AE(ab)", "AE(b)", "[b,b]", 4, 2, 2, 0);
        resolve("AE(ab)", "AE(b)", Due.STATE, 4, 2, 0, 0);
        resolve("AU(N,B)", "AB", "[T]", 2, 2, 1, 0);
    }

    private static void resolvingRecords() {
        resolve("R(a:I,b:S,c:B)", "R(c:B,a:L)", "{T,5}", 10, 2, 104, 1);
        resolve("R(a:I)", "R(a:I,b:I)", Due.STATE, 10);
        resolve("R(a:I)", "R(b:I=4,a:I)", "{4,5}", 10);
        resolve("R(a:I)", "R(a:S=\"\")", Due.STATE, 10);
        resolve("R(x:R(a:I,b:AI),y:I)", "R(y:I,x:R(b:AL,a:I))", "{9,{[1,2],7}}", 14, 2, 2, 2, 4, 0, 18);
        resolve("AR(a:I,b:S)", "AR(b:S,a:I)", "[{\"x\",1},{\"\",2}]", 4, 2, 2, 120, 4, 0, 0);
        resolve("R(a:AR(k:AR(p:I,q:B),l:I))", "R(a:AR(l:I,k:AR(q:B,p:I)))", "{[{9,[{T,1},{F,2}]},{8,[]}]}", 4, 4, 2, 1, 4, 0, 0,
            18, 0, 16, 0);
        resolve("R(a:U(N,R(b:I,c:I)),d:I)", "R(d:I,a:U(R(c:I),N))", "{3,0:{2}}", 2, 2, 4, 6);
        resolve("R(a:S)", "R(b:N=N)", "{N}", 2, 97);
    }

    private static void defaults() {
        String[][] each = {{"N=N", "N"}, {"B=F", "F"}, {"I=-3", "-3"}, {"L=0", "0"}, {"S=\"=,\"", "\"=,\""}, {"E(ab=a)=b", "b"},
            {"AI=[]", "[]"}, {"AI=[1,2]", "[1,2]"}, {"U(I,N)=5", "0:5"}, {"U(S,N)=\"0:\"", "0:\"0:\""},
            {"AU(N,I)=[N,N]", "[0:N,0:N]"}, {"U(AU(N,I),N)=[N,N]", "0:[0:N,0:N]"},
            {"R(x:U(B,N),y:R(z:AU(L,N)))={T,{[1,2]}}", "{0:T,{[0:1,0:2]}}"},
            {"U(R(x:U(R(y:U(N,B)),B)),N)={{N}}", "0:{0:{0:N}}"}, {"R(x:I=1,y:I=2)={3,4}", "{3,4}"},
            {"AU(E(ab),N)=[a,b,a]", "[0:a,0:b,0:a]"}};
        for (String[] one : each) {
            resolve("R(a:N)", "R(b:" + one[0] + ")", "{" + one[1] + "}");
            resolve("R(a:N)", "R(b:" + one[0] + ",a:U(B,N))", "{" + one[1] + ",1:N}");
        }
        Desk desk = new Desk();
        desk.register(0, "R(q:AU(N,I)=[N,N])");
        desk.register(0, "R(q:E(nopq)=n,b:N)");
        desk.register(0, "R(q:AAAAAN=[],b:N)");
        desk.register(0, "R(q:S=\"1234567\")");
        desk.register(0, "R(z:N)");
        DUE.is("a default is of its own version", "{[0:N,0:N]}", desk.decode(0, 4, 0, new int[0]));
        DUE.is("a default is of its own version", "{\"1234567\"}", desk.decode(0, 4, 3, new int[0]));
    }

    private static void lengthLimit() {
        // Nine of twenty: 9 * 41 characters, 8 commas and 2 brackets, so 379.
        int[] nine = stream(9, 20);
        resolve("AAN", "AAN", "[" + ("[" + "N,".repeat(19) + "N],").repeat(8) + "[" + "N,".repeat(19) + "N]]", nine);
        // A tenth of n has 2 n + 2 characters more, its comma with them.
        int[] most = java.util.Arrays.copyOf(nine, nine.length + 2);
        most[0] = 20;
        most[most.length - 3] = 20;
        most[most.length - 2] = 0;
        most[most.length - 1] = 0;
        Desk desk = new Desk();
        desk.register(0, "AAN");
        desk.give(most);
        DUE.is("a tenth of ten", Due.STATE, desk.decode(0, 0, 0));
        desk.inner.drain();
        most[most.length - 3] = 18;
        desk.give(most);
        DUE.is("a tenth of nine", 399, desk.decode(0, 0, 0));
        DUE.is("the length of out", 399, desk.row().size());
        exactly400();
        resolve("AAN", "AAU(N,B)", Due.STATE, nine);
        resolve("R(a:AAN)", "R(a:AAN,b:AS=[\"123456789012\",\"1234\"])", Due.STATE, nine);
        resolve("R(a:AAN)", "R(b:S=\"123456789012\",c:S=\"12\",a:AAN)", Due.STATE, nine);
    }

    /** A string of each length, so that the value has from 388 to 400 characters, or more. */
    private static void exactly400() {
        int[] nine = stream(9, 20);
        for (int length = 0; length <= 12; length++) {
            int[] bytes = java.util.Arrays.copyOf(nine, nine.length + 2 + length);
            bytes[nine.length] = 2 * length;
            java.util.Arrays.fill(bytes, nine.length + 1, nine.length + 1 + length, 'x');
            bytes[bytes.length - 1] = 99;
            Desk desk = new Desk();
            desk.register(0, "R(a:AAN,b:S,c:L)");
            desk.give(bytes);
            // { and 379 and , and the string with its two " and , and -50 and }
            int characters = 1 + 379 + 1 + length + 2 + 1 + 3 + 1;
            String due = characters > 400 ? Due.STATE : "" + characters;
            DUE.is("a value of " + characters, due, desk.decode(0, 0, 0));
        }
    }

    private static int[] stream(int outer, int inner) {
        int[] bytes = new int[2 * outer + 2];
        bytes[0] = 2 * outer;
        for (int i = 0; i < outer; i++) {
            bytes[2 * i + 1] = 2 * inner;
        }
        return bytes;
    }

    /** Many values of no bytes, which the reader leaves out. */
    private static void manyElements() {
        String record = "R(a:N,b:R(a:N,b:N,c:N,d:N,e:N,f:N),c:R(a:N,b:N,c:N,d:N,e:N,f:N),d:R(a:N,b:N,c:N,d:N,e:N,f:N))";
        int[] bytes = java.util.Arrays.copyOf(stream(20, 20), 43);
        bytes[42] = 1;
        resolve("R(q:AA" + record + ",r:B)", "R(r:B)", "{T}", bytes);
    }

    private static void whatItLeaves() {
        Desk desk = new Desk();
        desk.register(0, "R(a:I)");
        desk.register(0, "R(b:I)");
        desk.register(0, "R(a:I,b:I)");
        desk.say("xyz");
        desk.give(4);
        desk.print(0, 0, false);
        DUE.is("stream too short", Due.ARGUMENT, desk.decode(0, 2, 0));
        DUE.is("place", 1, desk.inner.place());
        DUE.is("can't be resolved", Due.STATE, desk.decode(0, 0, 1));
        DUE.is("it leaves the place", 1, desk.inner.place());
        DUE.is("no such version", Due.ARGUMENT, desk.decode(0, 0, 3));
        DUE.is("it leaves the place", 1, desk.inner.place());
        DUE.is("out is as it was", "R(a:I)", desk.shown());
        DUE.is("decode", 3, desk.decode(0, 0, 0));
        DUE.is("value", "{2}", desk.shown());
        DUE.is("the place is gone", -1, desk.inner.place());
        DUE.is("the stream is empty then", 0, desk.inner.drain());
        DUE.is("the text is as it was", 3, desk.inner.wipe());
        desk.encode(0, 0, "{N}");
        DUE.is("place of encode", 1, desk.inner.place());
        desk.give(4);
        desk.decode(0, 0, 0);
        DUE.is("decode takes the place of encode away", -1, desk.inner.place());
        desk.give(4, 4);
        desk.decode(0, 0, 0);
        DUE.is("place of decode", 1, desk.inner.place());
        desk.register(0, "N");
        DUE.is("register takes the place of decode away", -1, desk.inner.place());
    }

    private static void wrongInputs() {
        Desk desk = new Desk();
        desk.register(1, "I");
        desk.give(2);
        int[] wrong = {-1, 1, 6, Integer.MAX_VALUE, Integer.MIN_VALUE};
        for (int version : wrong) {
            DUE.is("decode from version " + version, Due.ARGUMENT, desk.decode(1, version, 0));
            DUE.is("decode to version " + version, Due.ARGUMENT, desk.decode(1, 0, version));
        }
        int[] subjects = {-1, 0, 4, Integer.MAX_VALUE, Integer.MIN_VALUE};
        for (int subject : subjects) {
            DUE.is("decode subject " + subject, Due.ARGUMENT, desk.decode(subject, 0, 0));
        }
        DUE.is("place", -1, desk.inner.place());
        DUE.is("the stream stays", 1, desk.inner.drain());
        desk.register(1, "AL");
        int[] bytes = new int[64];
        java.util.Arrays.fill(bytes, 255);
        bytes[0] = 40;
        for (int i = 10; i < 64; i += 10) {
            bytes[i] = 1;
        }
        DUE.is("a stream may be of any length where the place is asked", Due.ARGUMENT + " at 64",
            desk.decode(1, 1, 1, bytes));
    }
}
