import java.math.BigInteger;
import java.util.ArrayList;
import java.util.Arrays;
import java.util.List;

/** The Terms' sentences on values and their bytes, with promise 12: what may follow, and the bytes at each edge. */
public final class ValueEdgesTest {
    private static final Due DUE = new Due("ValueEdgesTest");
    private static final String EIGHT = "acegikmo";

    public static void main(String[] args) {
        plainValues();
        intValues();
        longValues();
        stringValues();
        symbolValues();
        twentyElements();
        branchNumber();
        recordValues();
        sixInOneAnother();
        valueOfAnyLength();
        bytesOfNullAndBoolean();
        bytesOfNumbers();
        asFewBytesAsCanBe();
        bytesOfStrings();
        bytesOfSymbols();
        bytesOfBranches();
        bytesOfRecords();
        bytesOfElements();
        moreBytesThanAStream();
        DUE.end();
    }

    private static void next(String schema, String begun, String due) {
        DUE.is("behind " + begun + " of " + schema, due, Ways.value(schema, begun));
    }

    private static void bytes(String schema, String value, Object due) {
        Desk desk = new Desk();
        desk.register(0, schema);
        desk.say(value);
        String answer = desk.encode(0, 0);
        DUE.is("bytes of " + value + " of " + schema, due, desk.numbers());
        DUE.is("how many bytes " + value + " has", desk.row().size(), answer);
    }

    private static String elements(String element, int count) {
        return String.join(",", java.util.Collections.nCopies(count, element));
    }

    /** "A VALUE of a type is written likewise": N, and T or F. */
    private static void plainValues() {
        next("N", "", "N");
        next("N", "N", Ways.END);
        next("B", "", "FT");
        next("B", "T", Ways.END);
        next("B", "F", Ways.END);
    }

    /** "a whole number in decimals that fits an int ... (perhaps -, no zeros in front, not -0)" */
    private static void intValues() {
        next("I", "", "-" + Ways.DIGITS);
        next("I", "-", Ways.span('1', '9'));
        next("I", "0", Ways.END);
        next("I", "7", Ways.END + Ways.DIGITS);
        next("I", "214748364", Ways.END + Ways.span('0', '7'));
        next("I", "-214748364", Ways.END + Ways.span('0', '8'));
        next("I", "214748363", Ways.END + Ways.DIGITS);
        next("I", "214748365", Ways.END);
        next("I", "2147483647", Ways.END);
        next("I", "-2147483648", Ways.END);
        next("I", "429496729", Ways.END);
    }

    /** "or a long" */
    private static void longValues() {
        next("L", "", "-" + Ways.DIGITS);
        next("L", "-", Ways.span('1', '9'));
        next("L", "0", Ways.END);
        next("L", "2147483647", Ways.END + Ways.DIGITS);
        next("L", "922337203685477580", Ways.END + Ways.span('0', '7'));
        next("L", "-922337203685477580", Ways.END + Ways.span('0', '8'));
        next("L", "922337203685477579", Ways.END + Ways.DIGITS);
        next("L", "922337203685477581", Ways.END);
        next("L", "9223372036854775807", Ways.END);
        next("L", "-9223372036854775808", Ways.END);
        next("L", "1844674407370955161", Ways.END);
    }

    /** "at most 12 characters but \" between two \"" */
    private static void stringValues() {
        next("S", "", "\"");
        next("S", "\"", Ways.CHARACTERS);
        next("S", "\"\"", Ways.END);
        next("S", "\"12345678901", Ways.CHARACTERS);
        next("S", "\"123456789012", "\"");
        next("S", "\"123456789012\"", Ways.END);
    }

    /** "of E: one of its symbols" */
    private static void symbolValues() {
        next("E(q)", "", "q");
        next("E(" + EIGHT + ")", "", EIGHT);
        next("E(zqw=q)", "", "qwz");
        next("E(zqw=q)", "z", Ways.END);
    }

    /** "but an A has at most 20 elements" */
    private static void twentyElements() {
        next("AB", "", "[");
        next("AB", "[", "FT]");
        next("AB", "[]", Ways.END);
        next("AB", "[T", ",]");
        next("AB", "[T,", "FT");
        next("AB", "[T,T,T", ",]");
        next("AB", "[" + elements("T", 19), ",]");
        next("AB", "[" + elements("T", 20), "]");
        next("AB", "[" + elements("T", 20) + "]", Ways.END);
        next("AAB", "[[" + elements("T", 20), "]");
        next("AAB", "[[" + elements("T", 20) + "]", ",]");
        next("AAB", "[[" + elements("T", 20) + "],[" + elements("T", 19), ",]");
        next("AAB", "[" + elements("[]", 19), ",]");
        next("AAB", "[" + elements("[]", 20), "]");
        next("R(a:AN,b:AN)", "{[" + elements("N", 20) + "],[" + elements("N", 20), "]");
    }

    /** "in a U the number 0 .. of a branch stands with : before a value of this branch" */
    private static void branchNumber() {
        next("U(N,B)", "", "01");
        next("U(N,B,I)", "", "012");
        next("U(N,B,I,S)", "", "0123");
        next("U(N,B,I,S)", "0", ":");
        next("U(N,B,I,S)", "3", ":");
        next("U(N,B,I,S)", "0:", "N");
        next("U(N,B,I,S)", "1:", "FT");
        next("U(N,B,I,S)", "2:", "-" + Ways.DIGITS);
        next("U(N,B,I,S)", "3:", "\"");
        next("U(N,B,I,S)", "0:N", Ways.END);
        next("AU(N,B)", "[1:T,", "01");
        next("U(AU(N,B,I),S)", "0:[", "012]");
    }

    /** "of R: { ... each field, in order, with , between }": a default does not make one needless. */
    private static void recordValues() {
        next("R(x:B,y:N)", "", "{");
        next("R(x:B,y:N)", "{", "FT");
        next("R(x:B,y:N)", "{T", ",");
        next("R(x:B,y:N)", "{T,", "N");
        next("R(x:B,y:N)", "{T,N", "}");
        next("R(x:B,y:N)", "{T,N}", Ways.END);
        next("R(x:B=T,y:N=N)", "{", "FT");
        next("R(x:B=T,y:N=N)", "{T", ",");
        next("R(a:N,b:N,c:N,d:N,e:N,f:B)", "{N,N,N,N,N", ",");
        next("R(a:N,b:N,c:N,d:N,e:N,f:B)", "{N,N,N,N,N,F", "}");
        next("R(a:B)", "{T", "}");
    }

    /** "(six of them, then, one in the other)": a value goes as deep. */
    private static void sixInOneAnother() {
        next("AAAAAAB", "[[[[[[", "FT]");
        next("AAAAAAB", "[[[[[[T]]]]]", ",]");
        next("R(a:R(a:R(a:R(a:R(a:R(a:B))))))", "{{{{{{", "FT");
        next("R(a:R(a:R(a:R(a:R(a:R(a:B))))))", "{{{{{{T}}}}}}", Ways.END);
        next("U(AU(AU(AB,N),N),N)", "0:[0:[0:[", "FT]");
        next("U(AU(AU(AB,N),N),N)", "0:[0:[0:[T]]]", Ways.END);
        next("AU(AU(AU(N,B),N),N)", "[0:[0:[1:", "FT");
        bytes("AU(AU(AU(N,B),N),N)", "[0:[0:[1:T]]]", "[2, 0, 2, 0, 2, 2, 1, 0, 0, 0]");
    }

    /** "(of any length)": a full text may be a value, or the beginning of a longer one. */
    private static void valueOfAnyLength() {
        String ten = "[" + elements("\"123456789012\"", 10);
        String most = ten + ",\"123456\"";
        DUE.is("one is left", 159, most.length());
        next("AS", most.substring(0, 158), Ways.CHARACTERS);
        next("AS", most, ",]");
        Desk desk = new Desk();
        desk.register(0, "AS");
        String more = ten + ",\"1234567890";
        for (int length = 150; length <= 160; length++) {
            desk.inner.wipe();
            desk.say(more.substring(0, length));
            DUE.is("encode of the first " + length, Due.ARGUMENT, desk.encode(0, 0));
            DUE.is("place in the first " + length, length, desk.inner.place());
        }
        desk.inner.wipe();
        desk.say(most + "]");
        DUE.is("encode of a full text", 1 + 10 * 13 + 7 + 1, desk.encode(0, 0));
    }

    /** "of N none; of B 1 for T, 0 for F" */
    private static void bytesOfNullAndBoolean() {
        bytes("N", "N", "[]");
        bytes("B", "T", "[1]");
        bytes("B", "F", "[0]");
    }

    /** "with z = 2 v for v not below 0, else -2 v - 1, of z seven binary figures a byte, the lowest first" */
    private static void bytesOfNumbers() {
        for (String kind : new String[] {"I", "L"}) {
            bytes(kind, "0", "[0]");
            bytes(kind, "-1", "[1]");
            bytes(kind, "1", "[2]");
            bytes(kind, "-2", "[3]");
            bytes(kind, "63", "[126]");
            bytes(kind, "-64", "[127]");
            bytes(kind, "64", "[128, 1]");
            bytes(kind, "-65", "[129, 1]");
            bytes(kind, "8191", "[254, 127]");
            bytes(kind, "-8192", "[255, 127]");
            bytes(kind, "8192", "[128, 128, 1]");
            bytes(kind, "2147483647", "[254, 255, 255, 255, 15]");
            bytes(kind, "-2147483648", "[255, 255, 255, 255, 15]");
        }
        bytes("L", "2147483648", "[128, 128, 128, 128, 16]");
        bytes("L", "-2147483649", "[129, 128, 128, 128, 16]");
        bytes("L", "9223372036854775807", "[254, 255, 255, 255, 255, 255, 255, 255, 255, 1]");
        bytes("L", "-9223372036854775808", "[255, 255, 255, 255, 255, 255, 255, 255, 255, 1]");
    }

    /** "128 more for all bytes but the last one, as few as can be (one for 0)" */
    private static void asFewBytesAsCanBe() {
        for (int count = 1; count <= 9; count++) {
            BigInteger first = BigInteger.ONE.shiftLeft(7 * count - 1);
            BigInteger most = first.subtract(BigInteger.ONE);
            BigInteger least = first.negate();
            howMany(most, count);
            howMany(least, count);
            howMany(first, count + 1);
            howMany(least.subtract(BigInteger.ONE), count + 1);
        }
    }

    private static void howMany(BigInteger number, int count) {
        if (number.bitLength() > 63) {
            return;
        }
        bytes("L", "" + number, Model.numberBytes(number));
        DUE.is("how many bytes for " + number, count, Model.numberBytes(number).size());
        if (number.bitLength() <= 31) {
            bytes("I", "" + number, Model.numberBytes(number));
        }
    }

    /** "of S twice its length, and its characters" */
    private static void bytesOfStrings() {
        for (int length = 0; length <= 12; length++) {
            List<Integer> due = new ArrayList<>(List.of(2 * length));
            for (int i = 0; i < length; i++) {
                due.add('a' + i);
            }
            bytes("S", "\"" + "abcdefghijkl".substring(0, length) + "\"", due);
        }
        for (char c = ' '; c <= '~'; c++) {
            if (c != '"') {
                bytes("S", "\"" + c + "\"", "[2, " + (int) c + "]");
            }
        }
    }

    /** "of E twice the number of the symbol from 0 on" */
    private static void bytesOfSymbols() {
        for (int i = 0; i < EIGHT.length(); i++) {
            bytes("E(" + EIGHT + "=k)", "" + EIGHT.charAt(i), "[" + 2 * i + "]");
        }
        bytes("E(zyx)", "z", "[0]");
    }

    /** "of U twice the number of the branch, and the value there" */
    private static void bytesOfBranches() {
        bytes("U(N,B,S,I)", "0:N", "[0]");
        bytes("U(N,B,S,I)", "1:T", "[2, 1]");
        bytes("U(N,B,S,I)", "2:\"~\"", "[4, 2, 126]");
        bytes("U(N,B,S,I)", "3:-65", "[6, 129, 1]");
    }

    /** "of R those of the fields in order" */
    private static void bytesOfRecords() {
        bytes("R(z:N,a:B,m:I)", "{N,T,-1}", "[1, 1]");
        bytes("R(a:I,b:I,c:I,d:I,e:I,f:I)", "{1,2,3,4,5,6}", "[2, 4, 6, 8, 10, 12]");
        bytes("R(a:N)", "{N}", "[]");
    }

    /** "of A: nothing but a 0 if it has no elements, else twice their number, these, and a 0" */
    private static void bytesOfElements() {
        bytes("AB", "[]", "[0]");
        for (int count = 1; count <= 20; count++) {
            List<Integer> due = new ArrayList<>(List.of(2 * count));
            for (int i = 0; i < count; i++) {
                due.add(1);
            }
            due.add(0);
            bytes("AB", "[" + elements("T", count) + "]", due);
            bytes("AN", "[" + elements("N", count) + "]", Arrays.asList(2 * count, 0));
        }
        bytes("AAB", "[[],[T],[]]", "[6, 0, 2, 1, 0, 0, 0]");
        bytes("AR(a:N,b:AN)", "[{N,[]},{N,[N]}]", "[4, 0, 2, 0, 0]");
    }

    /** A stream has at most 64 bytes, but OUT no such bound. */
    private static void moreBytesThanAStream() {
        Desk desk = new Desk();
        desk.register(0, "AAB");
        desk.say("[" + elements("[" + elements("T", 20) + "]", 3) + ",[T,T,T]]");
        DUE.is("encode", 1 + 3 * 22 + 5 + 1, desk.encode(0, 0));
        DUE.is("the first", 8, desk.out(0));
        DUE.is("the last", 0, desk.out(72));
        DUE.is("none behind it", Due.INDEX, desk.out(73));
    }
}
