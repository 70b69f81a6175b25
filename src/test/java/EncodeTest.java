/** Promises 12 and 14: which texts are values, their bytes, and the place in those that are none. */
public final class EncodeTest {
    private static final Due DUE = new Due("EncodeTest");

    public static void main(String[] args) {
        plain();
        numbers();
        strings();
        symbols();
        arrays();
        unions();
        records();
        whatItLeaves();
        wrongInputs();
        DUE.end();
    }

    private static void good(String schema, String value, int... bytes) {
        Desk desk = new Desk();
        desk.register(0, schema);
        DUE.is(value + " as " + schema, java.util.Arrays.toString(bytes), desk.encode(0, 0, value));
        DUE.is("place behind " + value, -1, desk.inner.place());
        DUE.is("and back", value, desk.decode(0, 0, 0, bytes));
    }

    /** What stands before the bar can go on, what stands behind can't. */
    private static void bad(String schema, String... barred) {
        for (String one : barred) {
            int place = one.indexOf('|');
            String value = one.substring(0, place) + one.substring(place + 1);
            Desk desk = new Desk();
            desk.register(0, schema);
            DUE.is(value + " as " + schema, Due.ARGUMENT + " at " + place, desk.encode(0, 0, value));
        }
    }

    private static void plain() {
        good("N", "N");
        good("B", "T", 1);
        good("B", "F", 0);
        bad("N", "|", "|T", "N|N", "|n", "| N", "N| ");
        bad("B", "|", "|N", "T|F", "|t", "|1");
    }

    private static void numbers() {
        good("I", "0", 0);
        good("I", "-1", 1);
        good("I", "1", 2);
        good("I", "63", 126);
        good("I", "-64", 127);
        good("I", "64", 128, 1);
        good("I", "-65", 129, 1);
        good("I", "8191", 254, 127);
        good("I", "8192", 128, 128, 1);
        good("I", "2147483647", 254, 255, 255, 255, 15);
        good("I", "-2147483648", 255, 255, 255, 255, 15);
        good("L", "2147483648", 128, 128, 128, 128, 16);
        good("L", "9223372036854775807", 254, 255, 255, 255, 255, 255, 255, 255, 255, 1);
        good("L", "-9223372036854775808", 255, 255, 255, 255, 255, 255, 255, 255, 255, 1);
        good("L", "-10", 19);
        bad("I", "|", "-|", "-|0", "0|0", "|+1", "1|.", "214748364|8", "-214748364|9", "1| ", "|N", "12|a", "999999999|9");
        bad("L", "922337203685477580|8", "-922337203685477580|9", "1000000000000000000|0", "-|-", "0|-");
    }

    private static void strings() {
        good("S", "\"\"", 0);
        good("S", "\"a\"", 2, 97);
        good("S", "\" ~,]})=:'\\\"", 20, 32, 126, 44, 93, 125, 41, 61, 58, 39, 92);
        good("S", "\"123456789012\"", 24, 49, 50, 51, 52, 53, 54, 55, 56, 57, 48, 49, 50);
        bad("S", "|", "|a", "\"|", "\"abc|", "\"123456789012|3\"", "\"123456789012|", "\"a\"|b", "\"a\"|\"");
    }

    private static void symbols() {
        good("E(qwe)", "q", 0);
        good("E(qwe)", "e", 4);
        good("E(abcdefgh=c)", "h", 14);
        bad("E(qwe=w)", "|", "|r", "q|w", "|=", "|Q", "|(", "|)");
    }

    private static void arrays() {
        good("AI", "[]", 0);
        good("AI", "[5]", 2, 10, 0);
        good("AAB", "[[T],[],[F,T]]", 6, 2, 1, 0, 0, 4, 0, 1, 0, 0);
        good("AN", "[" + "N,".repeat(19) + "N]", 40, 0);
        bad("AN", "|", "[|", "[N|", "[N,|", "[N,|]", "[|,", "[]|]", "[" + "N,".repeat(19) + "N|,N]", "|N", "[N|N]");
        good("AAAAAAI", "[[[[[[1]]]]],[]]", 4, 2, 2, 2, 2, 2, 2, 0, 0, 0, 0, 0, 0, 0);
        bad("AAAAAAI", "[[[[[[|[1]]]]]]]");
        bad("AI", "[1,-|]", "[1,2,3,4,5,|]", "[0|0]", "[1|;2]");
    }

    private static void unions() {
        good("U(N,I)", "0:N", 0);
        good("U(N,I)", "1:-7", 2, 13);
        good("U(N,B,AU(S,I),R(a:U(N,B)))", "3:{1:T}", 6, 2, 1);
        good("U(AU(AU(AI,N),N),N)", "0:[0:[0:[5]]]", 0, 2, 0, 2, 0, 2, 10, 0, 0, 0);
        good("U(N,B,AU(S,I),R(a:U(N,B)))", "2:[0:\"x\",1:1]", 4, 4, 0, 2, 120, 2, 2, 0);
        bad("U(N,I)", "|", "|N", "|2:N", "0|N", "0:|5", "1:|N", "0|0:N", "|-1:N", "|:N", "1:555555555|5");
        bad("U(N,B,I,L)", "|4:N", "3:1|:1", "|a:N", "|/:N");
    }

    private static void records() {
        good("R(a:I,b:S)", "{4,\"h\"}", 8, 2, 104);
        good("R(a:N)", "{N}");
        good("R(a:R(a:R(a:R(a:R(a:R(a:I))))))", "{{{{{{-3}}}}}}", 5);
        good("R(a:R(x:AI,y:B),s:S)", "{{[1,-1,300],T},\"hi\"}", 6, 2, 1, 216, 4, 0, 1, 4, 104, 105);
        bad("R(a:I,b:S=\"d\")", "|", "{|", "{|}", "{4|}", "{4,|}", "{4,\"h\"|,1}", "{4,\"h\"}|}", "|[4", "{4|;", "{4,\"h\"|", "{|\"h\",4}",
            "{|a:4}");
        bad("R(a:R(x:B,y:N),b:N)", "{{T|},N}", "{{T,N|,N}", "{|T,N}");
    }

    private static void whatItLeaves() {
        Desk desk = new Desk();
        desk.register(0, "AI");
        desk.say("[12");
        desk.give(7);
        DUE.is("encode", Due.ARGUMENT, desk.encode(0, 0));
        DUE.is("place", 3, desk.inner.place());
        DUE.is("no such version", Due.ARGUMENT, desk.encode(0, 1));
        DUE.is("it leaves the place", 3, desk.inner.place());
        desk.say(",9]");
        DUE.is("the text stayed", 4, desk.encode(0, 0));
        DUE.is("the place is gone", -1, desk.inner.place());
        DUE.is("bytes", "[4, 24, 18, 0]", desk.numbers());
        DUE.is("the text is empty then", 0, desk.inner.wipe());
        DUE.is("the stream is as it was", 1, desk.inner.drain());
        DUE.is("versions", 1, desk.versions(0));
    }

    private static void wrongInputs() {
        Desk desk = new Desk();
        desk.register(1, "I");
        desk.say("5");
        int[] wrong = {-1, 1, 6, Integer.MAX_VALUE, Integer.MIN_VALUE};
        for (int version : wrong) {
            DUE.is("encode version " + version, Due.ARGUMENT, desk.encode(1, version));
        }
        int[] subjects = {-1, 0, 4, Integer.MAX_VALUE, Integer.MIN_VALUE};
        for (int subject : subjects) {
            DUE.is("encode subject " + subject, Due.ARGUMENT, desk.encode(subject, 0));
        }
        DUE.is("place", -1, desk.inner.place());
        DUE.is("the text stays", 1, desk.inner.wipe());
        StringBuilder value = new StringBuilder("[");
        for (int i = 0; i < 13; i++) {
            value.append("-2147483648,");
        }
        desk.register(2, "AI");
        DUE.is("a value may be of any length where the place is asked", Due.ARGUMENT + " at 157",
            desk.encode(2, 0, value.toString()));
    }
}
