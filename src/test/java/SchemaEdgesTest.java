/** The Terms' sentences on schemas and literals: behind each beginning exactly what may follow. */
public final class SchemaEdgesTest {
    private static final Due DUE = new Due("SchemaEdgesTest");
    /** Those whose first letters differ, none of them a U. */
    private static final String[] BRANCHES = {"N", "B", "I", "L", "S", "E(a)", "AN", "R(a:N)"};

    public static void main(String[] args) {
        plainTypes();
        oneToEightSymbols();
        differentSymbols();
        symbolDefault();
        elements();
        twoToFourBranches();
        noBranchIsAUnion();
        noTwoBranchesAlike();
        oneToSixFields();
        differentNames();
        fieldDefault();
        sixInOneAnother();
        sixOnEachWay();
        literalOfPlainTypes();
        literalNumbers();
        literalInts();
        literalLongs();
        literalString();
        literalSymbol();
        literalElements();
        literalUnion();
        literalRecord();
        schemaOfAnyLength();
        DUE.end();
    }

    private static void next(String begun, String due) {
        DUE.is("behind " + begun, due, Ways.schema(begun));
    }

    /** "A SCHEMA is a TYPE: N null, B boolean, I int, L long, S string" */
    private static void plainTypes() {
        next("", Ways.TYPES);
        for (String plain : new String[] {"N", "B", "I", "L", "S"}) {
            next(plain, Ways.END);
        }
    }

    /** "E( one to eight different SYMBOLS a .. z )" */
    private static void oneToEightSymbols() {
        next("E", "(");
        next("E(", Ways.LETTERS);
        next("E(a", ")=" + Ways.span('b', 'z'));
        next("E(abcdefg", ")=" + Ways.span('h', 'z'));
        next("E(abcdefgh", ")=");
        next("E(a)", Ways.END);
        next("E(abcdefgh)", Ways.END);
        next("E(zyxwvuts", ")=");
        next("E(zyxwvuts)", Ways.END);
    }

    /** "different SYMBOLS a .. z" */
    private static void differentSymbols() {
        for (char c = 'a'; c <= 'z'; c++) {
            next("E(" + c, ")=" + Ways.without(Ways.LETTERS, "" + c));
        }
        next("E(zma", ")=" + Ways.without(Ways.LETTERS, "zma"));
        next("U(E(abc),AE(", Ways.LETTERS);
    }

    /** "perhaps with = and one of these symbols, its DEFAULT, before the )" */
    private static void symbolDefault() {
        next("E(q=", "q");
        next("E(acegikmo=", "acegikmo");
        next("E(acegikmo=o", ")");
        next("E(acegikmo=o)", Ways.END);
        next("E(qw=q", ")");
        next("R(a:E(qw=q)", "),=");
    }

    /** "A and the type of its ELEMENTS" */
    private static void elements() {
        next("A", Ways.TYPES);
        next("AN", Ways.END);
        next("AE(a)", Ways.END);
        next("AU(N,B)", Ways.END);
        next("AR(a:N)", Ways.END);
    }

    /** "U( two to four types with , between ), its BRANCHES" */
    private static void twoToFourBranches() {
        next("U", "(");
        next("U(N", ",");
        next("U(N,B", "),");
        next("U(N,B,I", "),");
        next("U(N,B,I,L", ")");
        next("U(N,B)", Ways.END);
        next("U(N,B,I,L)", Ways.END);
        next("U(E(a),R(a:N)", "),");
        next("U(S,E(a),R(a:N),AN", ")");
    }

    /** "none of them a U" */
    private static void noBranchIsAUnion() {
        String others = Ways.without(Ways.TYPES, "U");
        next("U(", others);
        next("U(N,", Ways.without(others, "N"));
        next("U(N,B,I,", Ways.without(others, "NBI"));
        next("U(A", Ways.TYPES);
        next("U(R(a:", Ways.TYPES);
    }

    /** "no two with the same first letter" */
    private static void noTwoBranchesAlike() {
        for (String one : BRANCHES) {
            next("U(" + one + ",", Ways.without(Ways.TYPES, "U" + one.charAt(0)));
            for (String other : BRANCHES) {
                if (other != one) {
                    next("U(" + one + "," + other + ",", Ways.without(Ways.TYPES, "U" + one.charAt(0) + other.charAt(0)));
                }
            }
        }
        next("U(N,AU(", Ways.without(Ways.TYPES, "U"));
        next("U(AU(N,B),", Ways.without(Ways.TYPES, "UA"));
    }

    /** "R( one to six FIELDS with , between ): a NAME a .. z, ... : and a type" */
    private static void oneToSixFields() {
        next("R", "(");
        next("R(", Ways.LETTERS);
        next("R(a", ":");
        next("R(a:", Ways.TYPES);
        next("R(a:N", "),=");
        next("R(a:N)", Ways.END);
        next("R(a:N,b:N,c:N,d:N,e:N", "),=");
        next("R(a:N,b:N,c:N,d:N,e:N,f:N", ")=");
        next("R(a:N,b:N,c:N,d:N,e:N,f:N=N", ")");
        next("R(a:N,b:N,c:N,d:N,e:N,f:N)", Ways.END);
        next("R(a:N,b:N,c:N,d:N,e:N,f:R(a:N", "),=");
    }

    /** "a NAME a .. z, other than that of any field before it in this record" */
    private static void differentNames() {
        for (char c = 'a'; c <= 'z'; c++) {
            next("R(" + c + ":N,", Ways.without(Ways.LETTERS, "" + c));
        }
        next("R(z:N,a:N,m:N,b:N,y:N,", Ways.without(Ways.LETTERS, "zamby"));
        next("R(a:N,b:R(", Ways.LETTERS);
        next("R(a:R(b:N,c:N),", Ways.without(Ways.LETTERS, "a"));
        next("R(a:E(bc),", Ways.without(Ways.LETTERS, "a"));
    }

    /** "perhaps with = and a LITERAL of it, its DEFAULT": a field's alone. */
    private static void fieldDefault() {
        next("R(a:N=", "N");
        next("R(a:N=N", "),");
        next("R(a:N=N)", Ways.END);
        next("R(a:AN=[]", "),");
        next("U(N", ",");
        next("R(a:AN", "),=");
        next("R(a:U(N,B)", "),=");
        next("R(a:R(b:N)", "),=");
    }

    /** "An A, U or R stands in at most five others, one in another": whichever they are. */
    private static void sixInOneAnother() {
        inAll("", 0);
    }

    private static void inAll(String begun, int depth) {
        String types = depth < 6 ? Ways.TYPES : "BEILNS";
        boolean inUnion = begun.endsWith("U(");
        next(begun, inUnion ? Ways.without(types, "U") : types);
        if (depth == 6) {
            return;
        }
        inAll(begun + "A", depth + 1);
        inAll(begun + "R(a:", depth + 1);
        if (!inUnion) {
            inAll(begun + "U(", depth + 1);
        }
    }

    /** "(six of them, then, one in the other)": what stands beside counts anew, and an E is none of them. */
    private static void sixOnEachWay() {
        next("AAAAAAE(", Ways.LETTERS);
        next("AAAAAU(N,", "BEILS");
        next("AAAAU(N,", Ways.without(Ways.TYPES, "NU"));
        next("R(a:AAAAAN,b:AAAA", Ways.TYPES);
        next("R(a:AAAAAN,b:AAAAA", "BEILNS");
        next("U(AAAAAN,R(b:AAA", Ways.TYPES);
        next("U(AAAAAN,R(b:AAAA", "BEILNS");
        next("R(a:AAAAAN=[[[[[N]]]]]", "),");
        next("R(a:AAAAAN=[[[[[", "N]");
    }

    /** "of N: N; of B: T or F" */
    private static void literalOfPlainTypes() {
        next("R(a:N=", "N");
        next("R(a:B=", "FT");
        next("R(a:B=T", "),");
        next("R(a:B=F", "),");
    }

    /** "a whole number in decimals ... (perhaps -, no zeros in front, not -0)" */
    private static void literalNumbers() {
        for (String number : new String[] {"R(a:I=", "R(a:L="}) {
            next(number, "-" + Ways.DIGITS);
            next(number + "-", Ways.span('1', '9'));
            next(number + "0", "),");
            next(number + "1", ")," + Ways.DIGITS);
            next(number + "-9", ")," + Ways.DIGITS);
            next(number + "10", ")," + Ways.DIGITS);
        }
    }

    /** "that fits an int" */
    private static void literalInts() {
        next("R(a:I=214748364", ")," + Ways.span('0', '7'));
        next("R(a:I=-214748364", ")," + Ways.span('0', '8'));
        next("R(a:I=214748363", ")," + Ways.DIGITS);
        next("R(a:I=-214748363", ")," + Ways.DIGITS);
        next("R(a:I=214748365", "),");
        next("R(a:I=-214748365", "),");
        next("R(a:I=99999999", ")," + Ways.DIGITS);
        next("R(a:I=999999999", "),");
        next("R(a:I=2147483647", "),");
        next("R(a:I=-2147483648", "),");
        // 4294967296 would be 0 again if it went round.
        next("R(a:I=429496729", "),");
        next("R(a:I=1000000000", "),");
    }

    /** "or a long" */
    private static void literalLongs() {
        next("R(a:L=2147483647", ")," + Ways.DIGITS);
        next("R(a:L=922337203685477580", ")," + Ways.span('0', '7'));
        next("R(a:L=-922337203685477580", ")," + Ways.span('0', '8'));
        next("R(a:L=922337203685477579", ")," + Ways.DIGITS);
        next("R(a:L=-922337203685477579", ")," + Ways.DIGITS);
        next("R(a:L=922337203685477581", "),");
        next("R(a:L=-922337203685477581", "),");
        next("R(a:L=99999999999999999", ")," + Ways.DIGITS);
        next("R(a:L=999999999999999999", "),");
        next("R(a:L=9223372036854775807", "),");
        next("R(a:L=-9223372036854775808", "),");
        // 18446744073709551616 would be 0 again if it went round.
        next("R(a:L=1844674407370955161", "),");
        next("R(a:L=1000000000000000000", "),");
    }

    /** "of S: at most 12 characters but \" between two \"" */
    private static void literalString() {
        next("R(a:S=", "\"");
        next("R(a:S=\"", Ways.CHARACTERS);
        next("R(a:S=\"\"", "),");
        next("R(a:S=\"12345678901", Ways.CHARACTERS);
        next("R(a:S=\"123456789012", "\"");
        next("R(a:S=\"123456789012\"", "),");
        next("R(a:S=\" ~=,)(", Ways.CHARACTERS);
    }

    /** "of E: one of its symbols" */
    private static void literalSymbol() {
        next("R(a:E(zqw)=", "qwz");
        next("R(a:E(zqw=w)=", "qwz");
        next("R(a:E(zqw)=z", "),");
        next("R(a:E(acegikmo)=", "acegikmo");
    }

    /** "of A: [ at most three literals of its elements with , between ]" */
    private static void literalElements() {
        next("R(a:AB=", "[");
        next("R(a:AB=[", "FT]");
        next("R(a:AB=[]", "),");
        next("R(a:AB=[T", ",]");
        next("R(a:AB=[T,", "FT");
        next("R(a:AB=[T,F", ",]");
        next("R(a:AB=[T,F,T", "]");
        next("R(a:AB=[T,F,T]", "),");
        next("R(a:AAB=[[T,F,T", "]");
        next("R(a:AAB=[[T,F,T]", ",]");
        next("R(a:AAB=[[T,F,T],[T,F", ",]");
        next("R(a:AAB=[[],[],[]", "]");
    }

    /** "of U: a literal of its first branch" */
    private static void literalUnion() {
        next("R(a:U(N,B)=", "N");
        next("R(a:U(B,N)=", "FT");
        next("R(a:U(I,N)=", "-" + Ways.DIGITS);
        next("R(a:U(N,B)=N", "),");
        next("R(a:AU(S,N)=[", "\"]");
    }

    /** "of R: { a literal of each field, in order, with , between }" */
    private static void literalRecord() {
        next("R(a:R(x:B,y:N)=", "{");
        next("R(a:R(x:B,y:N)={", "FT");
        next("R(a:R(x:B,y:N)={T", ",");
        next("R(a:R(x:B,y:N)={T,", "N");
        next("R(a:R(x:B,y:N)={T,N", "}");
        next("R(a:R(x:B,y:N)={T,N}", "),");
        next("R(a:R(x:B,y:N=N)={T", ",");
        next("R(a:R(x:B=T)={", "FT");
        next("R(x:R(a:N,b:N,c:N,d:N,e:N,f:B)={N,N,N,N,N", ",");
        next("R(x:R(a:N,b:N,c:N,d:N,e:N,f:B)={N,N,N,N,N,T", "}");
    }

    /** "(of any length)": a text of 160 may be a schema, or the beginning of a longer one. */
    private static void schemaOfAnyLength() {
        StringBuilder fields = new StringBuilder("R(");
        for (char name = 'a'; name <= 'e'; name++) {
            fields.append(name).append(":AS=[\"123456789012\"],");
        }
        String most = fields + "f:AS=[\"123456789012\",\"123456789012\",\"12345678\"]";
        DUE.is("one is left", 159, most.length());
        next(most, ")");
        String more = fields + "f:AS=[\"123456789012\",\"123456789012\",\"12345678901";
        for (int length = 150; length <= 160; length++) {
            Desk desk = new Desk();
            desk.say(more.substring(0, length));
            DUE.is("register of the first " + length, Due.ARGUMENT, desk.register(0));
            DUE.is("place in the first " + length, length, desk.inner.place());
            DUE.is("the text stays", length, desk.inner.wipe());
        }
    }
}
