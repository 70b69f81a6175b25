/** Promises 10 and 11: print and fingerprint. */
public final class PrintTest {
    private static final Due DUE = new Due("PrintTest");

    public static void main(String[] args) {
        bare("N", "N");
        bare("AAB", "AAB");
        bare("E(abc)", "E(abc)");
        bare("E(abc=b)", "E(abc)");
        bare("U(E(a=a),AE(b=b))", "U(E(a),AE(b))");
        bare("R(a:I,b:S)", "R(a:I,b:S)");
        bare("R(a:I=-12,b:S=\"\")", "R(a:I,b:S)");
        bare("R(a:S=\"=,)=b:N\",b:S=\"=\",c:N)", "R(a:S,b:S,c:N)");
        bare("R(a:E(xy=x)=y,b:AE(z=z)=[z,z])", "R(a:E(xy),b:AE(z))");
        bare("R(a:R(a:L=7,b:U(N,S)=N)={7,N},c:AAS=[[\"=\"],[],[\"a\",\"]\"]])", "R(a:R(a:L,b:U(N,S)),c:AAS)");
        fingerprints();
        wrongInputs();
        DUE.end();
    }

    private static void bare(String schema, String bare) {
        Desk desk = new Desk();
        desk.register(3, schema);
        DUE.is("print", schema.length(), desk.print(3, 0, false));
        DUE.is("text", schema, desk.shown());
        DUE.is("print bare", bare.length(), desk.print(3, 0, true));
        DUE.is("bare text", bare, desk.shown());
        DUE.is("fingerprint " + schema, rabin(bare), desk.fingerprint(3, 0));
        DUE.is("fingerprint leaves out", bare, desk.shown());
        DUE.is("print again", schema.length(), desk.print(3, 0, false));
        DUE.is("the version stays", schema, desk.shown());
    }

    /** A bit at a time over a long register: another way to the same remainder. */
    private static long rabin(String text) {
        long f = 0xC15D213AA4D7A795L;
        for (char c : text.toCharArray()) {
            f ^= c;
            for (int i = 0; i < 8; i++) {
                f = (f >>> 1) ^ ((f & 1) * 0xC15D213AA4D7A795L);
            }
        }
        return f;
    }

    private static void fingerprints() {
        Desk desk = new Desk();
        desk.register(0, "R(a:I,b:S=\"x\",c:U(N,I)=N,d:E(xyz=y)=z)");
        desk.register(0, "R(a:I,b:S,c:U(N,I),d:E(xyz))");
        desk.register(0, "R(b:S,a:I,c:U(N,I),d:E(xyz))");
        DUE.is("fingerprint", -8868443110263180997L, desk.fingerprint(0, 0));
        DUE.is("fingerprint of the same bare text", -8868443110263180997L, desk.fingerprint(0, 1));
        DUE.is("another text has another one", false, desk.fingerprint(0, 2).equals("-8868443110263180997"));
    }

    private static void wrongInputs() {
        Desk desk = new Desk();
        desk.register(1, "I");
        desk.print(1, 0, true);
        int[] wrong = {-1, 1, 6, Integer.MAX_VALUE, Integer.MIN_VALUE};
        for (int version : wrong) {
            DUE.is("print of version " + version, Due.ARGUMENT, desk.print(1, version, true));
            DUE.is("print of version " + version, Due.ARGUMENT, desk.print(1, version, false));
            DUE.is("fingerprint of version " + version, Due.ARGUMENT, desk.fingerprint(1, version));
        }
        int[] subjects = {-1, 0, 4, Integer.MAX_VALUE, Integer.MIN_VALUE};
        for (int subject : subjects) {
            DUE.is("print of subject " + subject, Due.ARGUMENT, desk.print(subject, 0, false));
            DUE.is("fingerprint of subject " + subject, Due.ARGUMENT, desk.fingerprint(subject, 0));
        }
        DUE.is("out is left", "I", desk.shown());
        String[] six = {"N", "B", "I", "L", "S", "AN"};
        for (String schema : six) {
            desk.register(2, schema);
        }
        DUE.is("print of version 5 of six", 2, desk.print(2, 5, false));
        DUE.is("print of version 6 of six", Due.ARGUMENT, desk.print(2, 6, false));
        desk.print(1, 0, true);
        DUE.is("place is left", -1, desk.inner.place());
        desk.register(1, "(");
        desk.print(1, 0, true);
        desk.print(1, 9, true);
        desk.fingerprint(1, 0);
        DUE.is("place is left", 0, desk.inner.place());
    }
}
