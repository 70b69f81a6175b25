import java.util.ArrayList;
import java.util.Arrays;
import java.util.Collections;
import java.util.List;

/** The Terms' sentences on reading a stream and its place, with promise 13: behind each beginning exactly what may follow. */
public final class StreamEdgesTest {
    private static final Due DUE = new Due("StreamEdgesTest");
    private static final String WHOLE = Ways.END.trim();
    private static final String STRING_BYTES = "32..33 35..126";

    public static void main(String[] args) {
        nullAndBoolean();
        intNumbers();
        longNumbers();
        readNumbers();
        strings();
        symbols();
        branches();
        fields();
        sixInOneAnother();
        noElements();
        twentyElements();
        severalParts();
        partsOfTwentyInAll();
        partsInParts();
        everyWayToPart();
        placeInAFullStream();
        DUE.end();
    }

    private static void next(String schema, String due, int... begun) {
        DUE.is("behind " + Arrays.toString(begun) + " of " + schema, due, Ways.stream(schema, begun));
    }

    private static void reads(String schema, String value, int... bytes) {
        Desk desk = new Desk();
        desk.register(0, schema);
        DUE.is(Arrays.toString(bytes) + " of " + schema, value, desk.decode(0, 0, 0, bytes));
    }

    private static int[] times(int count, int item) {
        int[] all = new int[count];
        Arrays.fill(all, item);
        return all;
    }

    private static int[] joined(int[]... rows) {
        return Arrays.stream(rows).flatMapToInt(Arrays::stream).toArray();
    }

    private static int[] of(int... bytes) {
        return bytes;
    }

    /** Twice the numbers from the first to the last one. */
    private static String twice(int first, int last) {
        List<String> all = new ArrayList<>();
        for (int i = first; i <= last; i++) {
            all.add("" + 2 * i);
        }
        return String.join(" ", all);
    }

    private static String elements(String element, int count) {
        return "[" + String.join(",", Collections.nCopies(count, element)) + "]";
    }

    /** "of N none; of B 1 for T, 0 for F": no other byte is read. */
    private static void nullAndBoolean() {
        next("N", WHOLE);
        next("B", "0..1");
        next("B", WHOLE, 0);
        next("B", WHOLE, 1);
        reads("N", "N");
        reads("B", "F", 0);
        reads("B", "T", 1);
    }

    /** "as few as can be", and only what fits an int. */
    private static void intNumbers() {
        next("I", "0..255");
        next("I", WHOLE, 0);
        next("I", WHOLE, 127);
        for (int begun : of(128, 255)) {
            next("I", "1..255", times(1, begun));
            next("I", "1..255", times(2, begun));
            next("I", "1..255", times(3, begun));
            next("I", "1..15", times(4, begun));
        }
        next("I", WHOLE, 128, 1);
        next("I", WHOLE, 255, 255, 255, 255, 15);
        // What may not end the number may not begin what comes next either.
        next("R(a:I,b:I)", "1..255", 128);
        next("R(a:I,b:I)", "1..15", 128, 128, 128, 128);
        next("AI", "1..15", 4, 128, 128, 128, 128);
        next("R(a:I,b:I)", "0..255", 128, 128, 128, 128, 15);
    }

    /** "as few as can be", and only what fits a long. */
    private static void longNumbers() {
        next("L", "0..255");
        next("L", WHOLE, 127);
        for (int begun : of(128, 255)) {
            for (int count = 1; count <= 8; count++) {
                next("L", "1..255", times(count, begun));
            }
            next("L", "1", times(9, begun));
        }
        next("L", WHOLE, joined(times(9, 255), of(1)));
        next("L", WHOLE, joined(times(8, 255), of(127)));
    }

    /** "with z = 2 v for v not below 0, else -2 v - 1": read back at each edge. */
    private static void readNumbers() {
        for (String kind : new String[] {"I", "L"}) {
            reads(kind, "0", 0);
            reads(kind, "-1", 1);
            reads(kind, "1", 2);
            reads(kind, "63", 126);
            reads(kind, "-64", 127);
            reads(kind, "64", 128, 1);
            reads(kind, "-65", 129, 1);
            reads(kind, "8191", 254, 127);
            reads(kind, "8192", 128, 128, 1);
            reads(kind, "2147483647", 254, 255, 255, 255, 15);
            reads(kind, "-2147483648", 255, 255, 255, 255, 15);
        }
        reads("L", "2147483648", 128, 128, 128, 128, 16);
        reads("L", "-2147483649", 129, 128, 128, 128, 16);
        reads("L", "9223372036854775807", joined(of(254), times(8, 255), of(1)));
        reads("L", "-9223372036854775808", joined(times(9, 255), of(1)));
        reads("L", "4611686018427387904", joined(times(9, 128), of(1)));
    }

    /** "of S twice its length, and its characters": at most 12 characters but " */
    private static void strings() {
        next("S", twice(0, 12));
        next("S", WHOLE, 0);
        next("S", STRING_BYTES, 2);
        next("S", WHOLE, 2, 32);
        next("S", STRING_BYTES, joined(of(24), times(11, 126)));
        next("S", WHOLE, joined(of(24), times(12, 126)));
        reads("S", "\"" + "~".repeat(12) + "\"", joined(of(24), times(12, 126)));
        reads("S", "\" \"", 2, 32);
    }

    /** "of E twice the number of the symbol from 0 on" */
    private static void symbols() {
        next("E(q)", "0");
        next("E(qw=q)", "0 2");
        next("E(acegikmo)", twice(0, 7));
        next("E(acegikmo)", WHOLE, 14);
        reads("E(acegikmo)", "o", 14);
        reads("E(acegikmo)", "a", 0);
    }

    /** "of U twice the number of the branch, and the value there" */
    private static void branches() {
        next("U(N,B)", "0 2");
        next("U(N,B,S)", "0 2 4");
        next("U(N,B,S,E(q))", twice(0, 3));
        next("U(N,B,S,E(q))", WHOLE, 0);
        next("U(N,B,S,E(q))", "0..1", 2);
        next("U(N,B,S,E(q))", twice(0, 12), 4);
        next("U(N,B,S,E(q))", "0", 6);
        next("U(N,B,S,E(q))", WHOLE, 6, 0);
        reads("U(N,B,S,E(q))", "3:q", 6, 0);
    }

    /** "of R those of the fields in order" */
    private static void fields() {
        next("R(a:N)", WHOLE);
        next("R(a:B,b:E(q),c:U(N,B))", "0..1");
        next("R(a:B,b:E(q),c:U(N,B))", "0", 1);
        next("R(a:B,b:E(q),c:U(N,B))", "0 2", 1, 0);
        next("R(a:B,b:E(q),c:U(N,B))", WHOLE, 1, 0, 0);
        next("R(a:N,b:N,c:N,d:N,e:N,f:B)", "0..1");
        next("R(a:B=T)", "0..1");
    }

    /** "(six of them, then, one in the other)": a stream is read as deep. */
    private static void sixInOneAnother() {
        next("R(a:R(a:R(a:R(a:R(a:R(a:B))))))", "0..1");
        next("AAAAAAB", "0..1", 2, 2, 2, 2, 2, 2);
        next("U(AU(AU(AB,N),N),N)", "0..1", 0, 2, 0, 2, 0, 2);
        reads("R(a:R(a:R(a:R(a:R(a:R(a:B))))))", "{{{{{{T}}}}}}", 1);
        reads("AAAAAAB", "[[[[[[T]]]]]]", 2, 2, 2, 2, 2, 2, 1, 0, 0, 0, 0, 0, 0);
        reads("AU(AU(AU(N,B),N),N)", "[0:[0:[1:T]]]", 2, 0, 2, 0, 2, 2, 1, 0, 0, 0);
    }

    /** "of A: nothing but a 0 if it has no elements" */
    private static void noElements() {
        next("AB", twice(0, 20));
        next("AB", WHOLE, 0);
        next("AAN", WHOLE, 0);
        next("R(a:AB,b:B)", "0..1", 0);
        reads("AB", "[]", 0);
    }

    /** "an A has at most 20 elements ... else twice their number, these, and a 0" */
    private static void twentyElements() {
        next("AB", "0..1", 40);
        next("AB", "0..1", joined(of(40), times(19, 1)));
        next("AB", "0", joined(of(40), times(20, 1)));
        next("AB", WHOLE, joined(of(40), times(20, 1), of(0)));
        next("AN", "0", 40);
        next("AN", WHOLE, 40, 0);
        reads("AB", elements("T", 20), joined(of(40), times(20, 1), of(0)));
        reads("AN", elements("N", 20), 40, 0);
    }

    /** "for an A the elements may also come in several parts, each twice its number (not 0) and its elements, a 0 behind all" */
    private static void severalParts() {
        next("AB", twice(0, 19), 2, 1);
        next("AB", twice(0, 18), 2, 1, 2, 0);
        next("AB", WHOLE, 2, 1, 2, 0, 0);
        next("AB", "0..1", 2, 1, 4, 0);
        reads("AB", "[T,F]", 2, 1, 2, 0, 0);
        reads("AS", "[\"a\",\"\",\"b\"]", 2, 2, 97, 4, 0, 2, 98, 0);
    }

    /** An A of several parts is the bytes of a value too: it has at most 20 elements in all of them. */
    private static void partsOfTwentyInAll() {
        for (int first = 1; first <= 19; first++) {
            next("AN", twice(0, 20 - first), 2 * first);
            next("AN", "0", 2 * first, 2 * (20 - first));
            reads("AN", elements("N", 20), 2 * first, 2 * (20 - first), 0);
        }
        next("AN", "0 2", times(19, 2));
        next("AN", "0", times(20, 2));
        next("AN", WHOLE, joined(times(20, 2), of(0)));
        reads("AN", elements("N", 20), joined(times(20, 2), of(0)));
    }

    /** Each A counts its own elements, in its own parts. */
    private static void partsInParts() {
        next("AAN", twice(0, 20), 4);
        next("AAN", "0", 4, 40);
        next("AAN", twice(0, 20), 4, 40, 0);
        next("AAN", twice(0, 5), 4, 40, 0, 30);
        next("AAN", twice(0, 18), 4, 40, 0, 40, 0);
        next("AAN", WHOLE, 4, 40, 0, 40, 0, 0);
        next("R(a:AN,b:AN)", twice(0, 20), 40, 0);
        next("R(a:AN,b:AN)", "0", 40, 0, 40);
        reads("AAB", "[[T,F],[],[T]]", 4, 2, 1, 2, 0, 0, 0, 2, 2, 1, 0, 0);
    }

    /** "may also come in several parts": five elements in each of the sixteen ways. */
    private static void everyWayToPart() {
        for (int cuts = 0; cuts < 16; cuts++) {
            List<Integer> bytes = new ArrayList<>();
            int begun = 0;
            for (int i = 1; i <= 5; i++) {
                if (i == 5 || (cuts >> (i - 1) & 1) == 1) {
                    bytes.add(2 * (i - begun));
                    for (int k = begun; k < i; k++) {
                        bytes.add(2 * k);
                    }
                    begun = i;
                }
            }
            bytes.add(0);
            reads("AI", "[0,1,2,3,4]", bytes.stream().mapToInt(b -> b).toArray());
        }
    }

    /** "how many bytes the longest beginning of the stream has that some stream (of any length) that can be read begins with" */
    private static void placeInAFullStream() {
        int[] string = joined(of(24), times(12, 126));
        int[] four = joined(string, string, string, string);
        Desk desk = new Desk();
        desk.register(0, "AS");
        int[] begun = joined(of(40), four, of(24), times(10, 126));
        for (int length = 0; length <= 64; length++) {
            DUE.is("the first " + length, Due.ARGUMENT + " at " + length, desk.decode(0, 0, 0, Arrays.copyOf(begun, length)));
        }
        begun[63] = 127;
        DUE.is("a wrong last byte", Due.ARGUMENT + " at 63", desk.decode(0, 0, 0, begun));
        DUE.is("what is too much", Due.ARGUMENT + " at 54", desk.decode(0, 0, 0, joined(of(8), four, times(11, 0))));
        String value = "[" + ("\"" + "~".repeat(12) + "\",").repeat(4) + "\"" + "~".repeat(8) + "\"]";
        DUE.is("all 64", value, desk.decode(0, 0, 0, joined(of(8), four, of(2, 16), times(8, 126), of(0))));
    }
}
