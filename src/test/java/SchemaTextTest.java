/** Promises 7 and 14: which texts are schemas, and the place in those that are none. */
public final class SchemaTextTest {
    private static final Due DUE = new Due("SchemaTextTest");
    private static final int OTHER_END = -1;

    public static void main(String[] args) {
        plainSchemas();
        plainFaults();
        symbols();
        branches();
        fields();
        nesting();
        numberDefaults();
        otherDefaults();
        longTexts();
        DUE.end();
    }

    private static void good(String schema) {
        Desk desk = new Desk();
        DUE.is("register " + schema, 0, desk.register(0, schema));
        DUE.is("place behind " + schema, -1, desk.inner.place());
        desk.print(0, 0, false);
        DUE.is("print", schema, desk.shown());
        for (int n = 0; n < schema.length(); n++) {
            beginning(schema.substring(0, n));
        }
    }

    /** A beginning of a schema is either one itself or faulty at its end. */
    private static void beginning(String begun) {
        Desk desk = new Desk();
        String answer = desk.register(0, begun);
        int due = answer.equals("0") ? OTHER_END : begun.length();
        DUE.is("place of the beginning " + begun, due, desk.inner.place());
    }

    /** What stands before the bar can go on, what stands behind can't. */
    private static void bad(String barred) {
        int place = barred.indexOf('|');
        String text = barred.substring(0, place) + barred.substring(place + 1);
        Desk desk = new Desk();
        desk.say(text);
        DUE.is("register " + text, Due.ARGUMENT, desk.register(2));
        DUE.is("place " + text, place, desk.inner.place());
        DUE.is("versions", 0, desk.versions(2));
        DUE.is("the text stays", text.length(), desk.inner.wipe());
    }

    private static void plainSchemas() {
        String[] schemas = {"N", "B", "I", "L", "S", "AN", "AAB", "E(q)", "AE(ab=b)", "U(N,I)", "R(a:N)"};
        for (String schema : schemas) {
            good(schema);
        }
    }

    private static void plainFaults() {
        String[] texts = {"|", "|n", "| N", "N| ", "N|N", "|X", "|(N)", "A|", "A|)", "|D", "|0", "|=", "I|=5", "AI|=[]",
            "U|N", "R|a:N", "E|ab", "E(| ", "R(a:E|)", "R(a:E(|),b:N)", "R(a:E(x|,b:N)", "R(a:E(x=|),b:N)", "U(|U",
            "R(a:U|,b:N)", "R(a:U(|),b:N)", "R(a:U(N|),b:N)", "R(a:U(N,B,|b:N)", "R(a:R|)", "R(a:R(|),b:N)", "R(a:R(b|),c:N)",
            "R(a:R(b:|),c:N)", "R(a:A|)", "U(E|,N)", "U(N,R|)", "U(N,A|)"};
        for (String text : texts) {
            bad(text);
        }
    }

    private static void symbols() {
        good("E(abcdefgh)");
        good("E(zyxwvuts=s)");
        good("E(a=a)");
        String[] texts = {"E(|)", "E(|=a)", "E(abcdefgh|i)", "E(ab|a)", "E(ab=|c)", "E(ab=|)", "E(ab=b|a)", "E(ab=a|=a)",
            "E(a|A)", "E(a|,b)", "E(a|1)", "E(ab=|", "E(a)|=a", "E(|A)", "E(a=|A)"};
        for (String text : texts) {
            bad(text);
        }
    }

    private static void branches() {
        good("U(N,B,I,L)");
        good("U(S,E(ab=a),AN,R(a:N))");
        good("U(AU(N,I),R(a:U(N,I)))");
        String[] texts = {"U(|)", "U(N|)", "U(N,|)", "U(N,B,I,L|,S)", "U(N,|N)", "U(AN,|AB)", "U(R(a:N),|R(b:N))",
            "U(E(a),|E(b))", "U(|U(N,B),I)", "U(N,|U(B,I))", "U(N|;B)", "U(N,B|", "U(N|=N,B)", "U(N,B)|=N", "U(N,B,|B)",
            "U(N,B,I,|N)", "U(AU(N,|U", "U(|n,B)"};
        for (String text : texts) {
            bad(text);
        }
    }

    private static void fields() {
        good("R(a:N,b:N,c:N,d:N,e:N,f:N)");
        good("R(z:R(z:R(z:N)),a:R(z:N))");
        good("R(a:E(a=a)=a,b:U(N,E(c))=N)");
        String[] texts = {"R(|)", "R(a|)", "R(a:|)", "R(a:N|", "R(a:N,|)", "R(a:N,|a:B)", "R(a:N,b:N,|a:N)", "R(|A:N)",
            "R(a|b:N)", "R(a|=N)", "R(a:N|b:N)", "R(a:N,b:N,c:N,d:N,e:N,f:N|,g:N)", "R(a:N|;b:N)", "R(a:N)|=N",
            "R(a:R(b:N,a:N,|b:N))", "R(|1:N)", "R(| a:N)"};
        for (String text : texts) {
            bad(text);
        }
    }

    private static void nesting() {
        good("AAAAAAN");
        good("AAAAAAE(a)");
        good("AAAAAU(N,B)");
        good("R(a:R(a:R(a:R(a:R(a:R(a:N=N))))))");
        good("U(AU(AU(AN,N),N),N)");
        good("R(a:AU(AR(b:AI),N),b:AAAAAI)");
        String[] texts = {"AAAAAA|AN", "AAAAAA|U(N,B)", "AAAAAA|R(a:N)", "AAAAAU(N,|AN)", "AAAAAU(N,|R(a:N))",
            "R(a:R(a:R(a:R(a:R(a:R(a:|R(a:N)))))))", "U(AU(AU(A|AN,N),N),N)", "R(a:AU(AR(b:A|AI),N))", "R(a:AAAAAI,b:AAAAA|AI)"};
        for (String text : texts) {
            bad(text);
        }
    }

    private static void numberDefaults() {
        String[] ints = {"0", "7", "-1", "10", "2147483647", "-2147483648", "1999999999", "-1000000000"};
        for (String number : ints) {
            good("R(a:I=" + number + ")");
        }
        String[] longs = {"0", "-9", "2147483648", "9223372036854775807", "-9223372036854775808", "1000000000000000000"};
        for (String number : longs) {
            good("R(a:L=" + number + ")");
        }
        String[] texts = {"R(a:I=|)", "R(a:I=-|)", "R(a:I=-|0)", "R(a:I=0|0)", "R(a:I=0|1)", "R(a:I=|+1)", "R(a:I=-|-1)",
            "R(a:I=1|.0)", "R(a:I=| 1)", "R(a:I=1| )", "R(a:I=|N)", "R(a:I=214748364|8)", "R(a:I=-214748364|9)",
            "R(a:I=2147483647|0)", "R(a:I=300000000|0)", "R(a:I=-2147483648|0)", "R(a:L=922337203685477580|8)",
            "R(a:L=-922337203685477580|9)", "R(a:L=-9223372036854775808|0)", "R(a:L=999999999999999999|9)",
            "R(a:L=1000000000000000000|0)", "R(a:L=-|0)", "R(a:I=1|e3)"};
        for (String text : texts) {
            bad(text);
        }
    }

    private static void otherDefaults() {
        String[] schemas = {"R(a:N=N,b:B=T,c:B=F)", "R(a:S=\"\",b:S=\" !#$%&'()*+,\",c:S=\"=,~)\")", "R(a:E(xy)=y)",
            "R(a:AI=[])", "R(a:AI=[1],b:AAB=[[T,F],[],[T]],c:AN=[N,N,N])", "R(a:U(I,N)=5,b:U(AU(S,N),B)=[\"N\"])",
            "R(a:R(x:I,y:R(z:S=\"d\"))={1,{\"\"}})", "R(a:AR(x:I=3)=[{1},{2}],b:U(R(x:N,y:N),N)={N,N})"};
        for (String schema : schemas) {
            good(schema);
        }
        String[] texts = {"R(a:N=|T)", "R(a:B=|N)", "R(a:B=T|F)", "R(a:B=|t)", "R(a:S=|x)", "R(a:S=\"123456789012|3\")",
            "R(a:S=\"ab|", "R(a:S=\"ab\"|\")", "R(a:S=\"\"|\"\")", "R(a:S=|')", "R(a:E(xy)=|z)", "R(a:E(xy)=x|y)", "R(a:E(xy)=|)",
            "R(a:AI=|1)", "R(a:AI=[|,1])", "R(a:AI=[1,|])", "R(a:AI=[1,2,3|,4])", "R(a:AI=[1|;2])", "R(a:AI=[|T])", "R(a:AI=[1|)",
            "R(a:U(I,N)=|N)", "R(a:U(I,N)=0|:5)", "R(a:U(N,I)=|0:N)", "R(a:R(x:I,y:I)={1|})", "R(a:R(x:I,y:I)={1,2|,3})",
            "R(a:R(x:I,y:I=2)={1|})", "R(a:R(x:I)=|[1])", "R(a:R(x:I)={|x:1})", "R(a:R(x:I)={1|)", "R(a:N=N|=N)",
            "R(a:R(x:I)={|})", "R(a:AE(xy)=[x,|z])", "R(a:AU(S,I)=[\"a\",|1])"};
        for (String text : texts) {
            bad(text);
        }
    }

    /** A schema may be of any length where the place is asked, though a text may not. */
    private static void longTexts() {
        StringBuilder text = new StringBuilder("R(");
        for (int i = 0; i < 5; i++) {
            text.append("abcde".charAt(i)).append(":S=\"123456789012\",");
        }
        text.append("f:R(a:S=\"123456789012\",b:S=\"123456789012\",c:AS=[\"\",\"1234567\"]))");
        String schema = text.toString();
        DUE.is("length", 160, schema.length());
        good(schema);
        beginning(schema.substring(0, 158) + ",d");
    }
}
