/** Promise 9: which types read which, and that decoding then never fails to resolve. */
public final class ReadsTest {
    private static final Due DUE = new Due("ReadsTest");
    private static final String[] PLAIN = {"N", "B", "I", "L", "S"};

    public static void main(String[] args) {
        plain();
        symbols();
        elements();
        unions();
        records();
        nested();
        wrongInputs();
        DUE.end();
    }

    private static void check(String reader, String writer, boolean due) {
        Desk desk = new Desk();
        desk.register(1, writer);
        String number = desk.register(1, reader);
        DUE.is(reader + " reads " + writer, due, desk.reads(1, Integer.parseInt(number), 0));
    }

    private static void yes(String reader, String writer) {
        check(reader, writer, true);
    }

    private static void no(String reader, String writer) {
        check(reader, writer, false);
    }

    private static void plain() {
        for (String reader : PLAIN) {
            for (String writer : PLAIN) {
                check(reader, writer, reader.equals(writer) || reader.equals("L") && writer.equals("I"));
            }
            no(reader, "E(a)");
            no("E(a=a)", reader);
            no(reader, "AN");
            no("AN", reader);
            no(reader, "R(a:N)");
            no("R(a:N=N)", reader);
        }
        no("AN", "R(a:N)");
        no("R(a:N=N)", "AN");
    }

    private static void symbols() {
        yes("E(abc)", "E(abc)");
        yes("E(cba)", "E(abc)");
        yes("E(abcd)", "E(ca)");
        no("E(ab)", "E(abc)");
        yes("E(ab=b)", "E(abc)");
        no("E(ab)", "E(abc=a)");
        yes("E(q=q)", "E(abcdefgh)");
        yes("E(hgfedcba)", "E(abcdefgh)");
        no("E(gfedcba)", "E(abcdefgh)");
    }

    private static void elements() {
        yes("AL", "AI");
        no("AI", "AL");
        no("AS", "S");
        no("S", "AS");
        no("AAN", "AN");
        yes("AU(N,I)", "AI");
        no("AI", "AU(N,I)");
    }

    private static void unions() {
        yes("U(N,I)", "I");
        yes("U(N,L)", "I");
        no("U(N,I)", "L");
        no("I", "U(I,N)");
        yes("L", "U(I,L)");
        no("I", "U(I,L)");
        yes("U(N,I)", "U(I,N)");
        yes("U(S,N,L)", "U(I,N)");
        no("U(S,L)", "U(I,N)");
        yes("U(E(ab),N)", "E(a)");
        no("U(E(a),N)", "E(ab)");
        yes("U(E(a=a),N)", "E(ab)");
        no("U(N,B)", "U(N,S)");
        yes("U(AU(N,L),N)", "AU(I,N)");
    }

    private static void records() {
        yes("R(a:I)", "R(a:I,b:S)");
        no("R(a:I,b:S)", "R(a:I)");
        yes("R(a:I,b:S=\"\")", "R(a:I)");
        yes("R(b:S,a:L)", "R(a:I,b:S)");
        no("R(a:I=1)", "R(a:S)");
        no("R(a:I=1)", "R(a:U(I,N))");
        yes("R(a:N=N)", "R(b:S)");
        no("R(a:N)", "R(b:N=N)");
        yes("R(f:N,e:N,d:N,c:N,b:N,a:N)", "R(a:N,b:N,c:N,d:N,e:N,f:N)");
        no("R(f:N,e:N,d:N,c:N,b:N,a:N)", "R(a:N,b:N,c:N,d:N,e:N,g:N)");
    }

    private static void nested() {
        yes("R(a:AR(x:U(N,L)))", "R(a:AR(y:S,x:I))");
        no("R(a:AR(x:U(N,I)))", "R(a:AR(y:S,x:L))");
        yes("AAAAAAL", "AAAAAAI");
        no("AAAAAAI", "AAAAAAL");
        yes("U(AU(AU(AL,N),N),N)", "U(AU(AU(AI,N),N),N)");
        no("U(AU(AU(AB,N),N),N)", "U(AU(AU(AI,N),N),N)");
        yes("AU(AU(AU(N,L),N),N)", "AAAI");
        yes("R(a:R(a:R(a:R(a:R(a:R(a:L))))))", "R(a:R(a:R(a:R(a:R(a:R(a:I))))))");
        no("R(a:R(a:R(a:R(a:R(a:R(a:I))))))", "R(a:R(a:R(a:R(a:R(a:R(a:L))))))");
        yes("R(a:E(xy=x)=y,b:AB=[T])", "R(c:N)");
    }

    private static void wrongInputs() {
        Desk desk = new Desk();
        desk.register(1, "I");
        DUE.is("itself", "true", desk.reads(1, 0, 0));
        int[] wrong = {-1, 1, 6, Integer.MAX_VALUE, Integer.MIN_VALUE};
        for (int version : wrong) {
            DUE.is("no such reader " + version, Due.ARGUMENT, desk.reads(1, version, 0));
            DUE.is("no such writer " + version, Due.ARGUMENT, desk.reads(1, 0, version));
        }
        int[] subjects = {-1, 0, 4, Integer.MAX_VALUE, Integer.MIN_VALUE};
        for (int subject : subjects) {
            DUE.is("no such subject or version " + subject, Due.ARGUMENT, desk.reads(subject, 0, 0));
        }
        DUE.is("place is left", -1, desk.inner.place());
    }
}
