import java.util.Arrays;

/** The Terms' sentences on resolving and on READS, with promises 9 and 13. */
public final class ResolveEdgesTest {
    private static final Due DUE = new Due("ResolveEdgesTest");
    /** A type of each letter but U, a value of it and the value's bytes. */
    private static final String[] TYPES = {"N", "B", "I", "L", "S", "E(q)", "AN", "R(a:N)"};
    private static final String[] VALUES = {"N", "T", "-5", "-5", "\"x\"", "q", "[N]", "{N}"};
    private static final int[][] BYTES = {{}, {1}, {9}, {9}, {2, 120}, {0}, {2, 0}, {}};

    public static void main(String[] args) {
        sameLetterStays();
        intBecomesLong();
        unionIsItsBranch();
        unionBranchesOneByOne();
        firstBranchThatReads();
        readsTheTypeNotTheValue();
        noBranchThatReads();
        sameSymbol();
        symbolDefault();
        noSymbolDefault();
        allElements();
        elementsThatCantBe();
        fieldsInTheReadersOrder();
        fieldsLeftOut();
        fieldsFilledIn();
        fieldsThatCantBe();
        sixFields();
        literalMadeAValue();
        everyValue();
        sixDeep();
        fourHundredCharacters();
        fourHundredWithDefaults();
        DUE.end();
    }

    /** Decodes the bytes of one schema as another one. */
    private static void as(String writer, String reader, String due, int... bytes) {
        Desk desk = new Desk();
        desk.register(0, writer);
        int to = Integer.parseInt(desk.register(0, reader));
        DUE.is(writer + " as " + reader + " of " + Arrays.toString(bytes), due, desk.decode(0, 0, to, bytes));
    }

    private static void reads(String reader, String writer, boolean due) {
        Desk desk = new Desk();
        desk.register(0, writer);
        int from = Integer.parseInt(desk.register(0, reader));
        DUE.is(reader + " reads " + writer, due, desk.reads(0, from, 0));
    }

    private static boolean canBe(int writer, int reader) {
        return writer == reader || TYPES[writer].equals("I") && TYPES[reader].equals("L");
    }

    /** "N, B, I, L, S as the same letter stay ... all else can't be" */
    private static void sameLetterStays() {
        for (int writer = 0; writer < TYPES.length; writer++) {
            for (int reader = 0; reader < TYPES.length; reader++) {
                boolean can = canBe(writer, reader);
                reads(TYPES[reader], TYPES[writer], can);
                as(TYPES[writer], TYPES[reader], can ? VALUES[writer] : Due.STATE, BYTES[writer]);
            }
        }
    }

    /** "an I as an L becomes that long" */
    private static void intBecomesLong() {
        as("I", "L", "2147483647", 254, 255, 255, 255, 15);
        as("I", "L", "-2147483648", 255, 255, 255, 255, 15);
        as("I", "L", "0", 0);
        as("L", "I", Due.STATE, 0);
        as("AI", "AL", "[-1,1]", 4, 1, 2, 0);
    }

    /** "if w is a U: the value of the branch, as a value of the branch's type" */
    private static void unionIsItsBranch() {
        for (int reader = 0; reader < TYPES.length; reader++) {
            String other = TYPES[reader].equals("N") ? "S" : "N";
            int[] chosen = new int[BYTES[reader].length + 1];
            System.arraycopy(BYTES[reader], 0, chosen, 1, BYTES[reader].length);
            as("U(" + TYPES[reader] + "," + other + ")", TYPES[reader], VALUES[reader], chosen);
            chosen[0] = 2;
            as("U(" + other + "," + TYPES[reader] + ")", TYPES[reader], VALUES[reader], chosen);
        }
        as("U(N,B,S,I)", "L", "3", 6, 6);
        as("U(N,B,S,I)", "L", Due.STATE, 0);
        as("U(N,B,S,I)", "L", Due.STATE, 2, 1);
    }

    /** A U as a U: the branch of the value counts, not the U as a whole. */
    private static void unionBranchesOneByOne() {
        as("U(N,I)", "U(I,N)", "1:N", 0);
        as("U(N,I)", "U(I,N)", "0:4", 2, 8);
        as("U(N,I)", "U(S,N)", "1:N", 0);
        as("U(N,I)", "U(S,N)", Due.STATE, 2, 8);
        as("U(N,I,L)", "U(L,I)", "0:4", 2, 8);
        as("U(N,I)", "U(N,I)", "1:4", 2, 8);
        reads("U(I,N)", "U(N,I)", true);
        reads("U(S,N)", "U(N,I)", false);
        reads("U(B,S,L,N)", "U(N,I)", true);
        for (String three : new String[] {"U(B,I,S)", "U(N,I,S)", "U(N,B,S)", "U(N,B,I)"}) {
            reads(three, "U(N,B,I,S)", false);
        }
        reads("U(S,I,B,N)", "U(N,B,I,S)", true);
        as("U(N,B,I,S)", "U(S,I,B,N)", "0:\"\"", 6, 0);
        as("U(N,B,I,S)", "U(S,I,B,N)", "3:N", 0);
    }

    /** "if r is a U: it becomes a value of its first branch that READS w, resolved as that" */
    private static void firstBranchThatReads() {
        as("I", "U(I,L)", "0:4", 8);
        as("I", "U(L,I)", "0:4", 8);
        as("I", "U(N,B,S,L)", "3:4", 8);
        as("L", "U(I,L)", "1:4", 8);
        as("R(a:I)", "U(N,R(b:N=N,a:L))", "1:{N,4}", 8);
        as("AI", "U(AU(N,L),N)", "0:[1:4]", 2, 8, 0);
    }

    /** The branch must read every value of w, also those that are not at hand. */
    private static void readsTheTypeNotTheValue() {
        as("E(ab)", "U(E(a),N)", Due.STATE, 0);
        as("E(ab)", "U(E(a=a),N)", "0:a", 2);
        as("AU(N,B)", "U(AN,N)", Due.STATE, 0);
        as("AU(N,B)", "AN", "[]", 0);
        as("R(a:U(N,B))", "U(R(a:N),N)", Due.STATE, 0);
        as("R(a:U(N,B))", "R(a:N)", "{N}", 0);
    }

    /** "it can't be if there is none" */
    private static void noBranchThatReads() {
        as("L", "U(N,B,I,S)", Due.STATE, 8);
        as("N", "U(B,I)", Due.STATE);
        as("AN", "U(AB,N)", Due.STATE, 2, 0);
        as("R(a:N)", "U(R(b:N),N)", Due.STATE);
        reads("U(N,B,I,S)", "L", false);
        reads("U(N,B,I,L)", "I", true);
        reads("U(N,B,S,L)", "I", true);
    }

    /** "an E as an E: the same symbol, if r has it" */
    private static void sameSymbol() {
        as("E(abcdefgh)", "E(hgfedcba)", "a", 0);
        as("E(abcdefgh)", "E(hgfedcba)", "h", 14);
        as("E(abcdefgh)", "E(h)", "h", 14);
        as("E(abcdefgh)", "E(zh=z)", "h", 14);
        reads("E(hgfedcba)", "E(abcdefgh)", true);
        reads("E(abcdefgh)", "E(h)", true);
        reads("E(abcdefg)", "E(h)", false);
    }

    /** "else r's default, if it has one" */
    private static void symbolDefault() {
        as("E(abcdefgh)", "E(z=z)", "z", 0);
        as("E(abcdefgh)", "E(xyzabcde=c)", "c", 14);
        reads("E(z=z)", "E(abcdefgh)", true);
    }

    /** "else it can't be": a default of w does not count, nor that of a field. */
    private static void noSymbolDefault() {
        as("E(ab=a)", "E(a)", Due.STATE, 2);
        as("E(ab=a)", "E(a)", "a", 0);
        as("R(a:E(ab))", "R(a:E(a)=a)", Due.STATE, 2);
        reads("E(a)", "E(ab=a)", false);
        reads("R(a:E(a)=a)", "R(a:E(ab))", false);
        reads("E(abcdefgh)", "E(abcdefgi)", false);
        reads("E(abcdefgh)", "E(iabcdefg)", false);
    }

    /** "an A as an A: all elements, resolved" */
    private static void allElements() {
        as("AI", "AU(S,L)", "[1:1,1:2,1:3]", 2, 2, 4, 4, 6, 0);
        as("AE(abc)", "AE(a=a)", "[a,a,a]", 6, 0, 2, 4, 0);
        String twenty = "[" + "N,".repeat(19) + "N]";
        as("AN", "AN", twenty, 40, 0);
        as("AN", "AU(B,N)", twenty.replace("N", "1:N"), 40, 0);
    }

    /** An A without elements has none that can't be resolved; one that can't be is enough. */
    private static void elementsThatCantBe() {
        as("AI", "AS", "[]", 0);
        as("AI", "AS", Due.STATE, 2, 2, 0);
        as("AU(N,B)", "AN", "[N,N]", 4, 0, 0, 0);
        as("AU(N,B)", "AN", Due.STATE, 4, 0, 2, 1, 0);
        reads("AS", "AI", false);
        reads("AN", "AU(N,B)", false);
    }

    /** "an R as an R: the fields of r, in their order, each the field of w with its name, resolved" */
    private static void fieldsInTheReadersOrder() {
        as("R(a:I,b:B,c:S)", "R(c:S,b:B,a:L)", "{\"x\",T,4}", 8, 1, 2, 120);
        as("R(a:I,b:I)", "R(b:I,a:I)", "{2,1}", 2, 4);
        as("R(a:R(a:I,b:I),b:R(a:I,b:I))", "R(b:R(b:I,a:I),a:R(b:I,a:I))", "{{4,3},{2,1}}", 2, 4, 6, 8);
        as("AR(a:I,b:AI)", "AR(b:AI,a:I)", "[{[1],5},{[],6}]", 4, 10, 2, 2, 0, 12, 0, 0);
    }

    /** A field of w that r has not is left out, whatever it is. */
    private static void fieldsLeftOut() {
        as("R(a:AS,b:B,c:U(N,I))", "R(b:B)", "{T}", 4, 2, 120, 0, 0, 1, 2, 8);
        as("AR(a:S,b:I)", "AR(b:I)", "[{1},{2}]", 4, 2, 120, 2, 0, 4, 0);
        reads("R(b:B)", "R(a:AS,b:B,c:U(N,I))", true);
    }

    /** "or, if w has none, its default as a value, if it has one" */
    private static void fieldsFilledIn() {
        as("R(a:N)", "R(b:I=7)", "{7}");
        as("R(a:I)", "R(b:S=\"\",a:I,c:AB=[])", "{\"\",4,[]}", 8);
        as("R(a:I)", "R(a:I=9)", "{4}", 8);
        as("AR(a:I)", "AR(b:B=T)", "[{T},{T}]", 4, 2, 4, 0);
        reads("R(b:I=7)", "R(a:N)", true);
    }

    /** "else it can't be": also when a field of that name is there, but of another type. */
    private static void fieldsThatCantBe() {
        as("R(a:I)", "R(b:I)", Due.STATE, 8);
        as("R(a:I)", "R(a:I,b:N)", Due.STATE, 8);
        as("R(a:I,b:N=N)", "R(b:B=T)", Due.STATE, 8);
        as("R(a:R(x:I))", "R(a:R(x:I,y:I))", Due.STATE, 8);
        as("R(a:R(x:I))", "R(a:R(x:I,y:I=3))", "{{4,3}}", 8);
        reads("R(b:I)", "R(a:I)", false);
        reads("R(a:I,b:N)", "R(a:I)", false);
        reads("R(b:B=T)", "R(a:I,b:N=N)", false);
        reads("R(b:N)", "R(a:I,b:N=N)", true);
    }

    /** The sixth field counts as the first does. */
    private static void sixFields() {
        String six = "R(a:I,b:I,c:I,d:I,e:I,f:I)";
        as(six, "R(f:I,e:I,d:I,c:I,b:I,a:I)", "{6,5,4,3,2,1}", 2, 4, 6, 8, 10, 12);
        as(six, "R(f:L)", "{6}", 2, 4, 6, 8, 10, 12);
        as(six, "R(a:I,b:I,c:I,d:I,e:I,g:I)", Due.STATE, 2, 4, 6, 8, 10, 12);
        as(six, "R(u:I=1,v:I=2,w:I=3,x:I=4,y:I=5,f:I=0)", "{1,2,3,4,5,6}", 2, 4, 6, 8, 10, 12);
        reads("R(a:I,b:I,c:I,d:I,e:I,f:I)", "R(f:I,e:I,d:I,c:I,b:I,a:I)", true);
        reads("R(a:I,b:I,c:I,d:I,e:I,g:I)", six, false);
        reads("R(a:I,b:I,c:I,d:I,e:I,f:B)", six, false);
    }

    /** "(A literal is made the value with 0: before what is of a U.)" */
    private static void literalMadeAValue() {
        as("R(a:N)", "R(b:U(I,N)=-7)", "{0:-7}");
        as("R(a:N)", "R(b:AU(S,N)=[\"0:\",\"\",\"[\"])", "{[0:\"0:\",0:\"\",0:\"[\"]}");
        as("R(a:N)", "R(b:U(AU(R(x:U(B,N)),N),N)=[{T},{F}])", "{0:[0:{0:T},0:{0:F}]}");
        as("R(a:N)", "R(b:R(x:U(N,B),y:B,z:U(B,N))={N,T,F})", "{{0:N,T,0:F}}");
        as("R(a:N)", "R(b:AU(N,B)=[])", "{[]}");
        as("R(a:N)", "U(N,R(b:U(N,B)=N))", "1:{0:N}");
        Desk desk = new Desk();
        desk.register(0, "R(b:AU(N,B)=[N,N,N])");
        desk.register(0, "R(b:S=\"1234567890\")");
        desk.register(0, "R(b:AU(B,N)=[T])");
        desk.register(0, "R(a:N)");
        DUE.is("what is no U behind what was one", "{\"1234567890\"}", desk.decode(0, 3, 1, new int[0]));
        DUE.is("a U", "{[0:T]}", desk.decode(0, 3, 2, new int[0]));
        DUE.is("a U that was kept", "{[0:N,0:N,0:N]}", desk.decode(0, 3, 0, new int[0]));
    }

    /** "r READS w if every value of w can be resolved as r": one that can't be is enough. */
    private static void everyValue() {
        reads("AN", "AB", false);
        reads("U(N,B)", "U(N,B,I)", false);
        reads("U(N,B,I)", "U(N,B)", true);
        reads("N", "U(N,B)", false);
        reads("L", "U(I,L)", true);
        reads("R(a:AE(ab))", "R(a:AE(abc))", false);
        reads("R(a:AE(ab=a))", "R(a:AE(abc))", true);
        reads("U(E(a),S)", "E(ab)", false);
        reads("U(R(x:N),N)", "R(y:N)", false);
        reads("U(R(x:N=N),N)", "R(y:N)", true);
    }

    /** Six in one another are resolved and read to the last, U's on both sides too. */
    private static void sixDeep() {
        as("AAAAAAI", "AAAAAAL", "[[[[[[4]]]]]]", 2, 2, 2, 2, 2, 2, 8, 0, 0, 0, 0, 0, 0);
        as("AAAAAAI", "AAAAAAS", Due.STATE, 2, 2, 2, 2, 2, 2, 8, 0, 0, 0, 0, 0, 0);
        as("U(AU(AU(AI,N),N),N)", "U(N,AU(N,AU(N,AL)))", "1:[1:[1:[4]]]", 0, 2, 0, 2, 0, 2, 8, 0, 0, 0);
        as("U(AU(AU(AI,N),N),N)", "U(N,AU(N,AU(N,AS)))", Due.STATE, 0, 2, 0, 2, 0, 2, 8, 0, 0, 0);
        as("AAAI", "U(N,AU(N,AU(N,AL)))", "1:[1:[1:[4]]]", 2, 2, 2, 8, 0, 0, 0);
        reads("U(N,AU(N,AU(N,AL)))", "U(AU(AU(AI,N),N),N)", true);
        reads("U(N,AU(N,AU(N,AS)))", "U(AU(AU(AI,N),N),N)", false);
        reads("AAAAAAL", "AAAAAAI", true);
        reads("AAAAAAS", "AAAAAAI", false);
    }

    /** "illegal state: it ... has more than 400 characters": the last of whatever kind. */
    private static void fourHundredCharacters() {
        String[] types = {"AN", "AAN", "B", "I", "L", "S", "E(q)", "U(N,I)", "R(a:N)", "AI", "AS"};
        String[] values = {"[N,N,N]", "[[],[N]]", "T", "-1000", "100", "\"xyz\"", "q", "1:50", "{N}", "[7,-7]", "[\"a\",\"b\"]"};
        for (int i = 0; i < types.length; i++) {
            for (int length = 0; length <= 12; length++) {
                lastOf400(types[i], values[i], length);
            }
        }
    }

    /** Makes a value of some 380 to 410 characters; a string is as long as is asked. */
    private static void lastOf400(String type, String value, int length) {
        Desk desk = new Desk();
        desk.register(0, "R(a:AAN,b:S,z:" + type + ")");
        desk.register(1, type);
        desk.encode(1, 0, value);
        int[] last = desk.row().stream().mapToInt(b -> b).toArray();
        for (int tenth = 0; tenth <= 4; tenth++) {
            give(desk, tenth, length, last);
            // Nine A of twenty, and a tenth: 9 * 41 characters, 9 commas, 2 brackets and what the tenth has.
            int inner = 2 + Math.max(0, 2 * tenth - 1);
            int characters = 1 + (9 * 41 + 9 + 2 + inner) + 1 + (length + 2) + 1 + value.length() + 1;
            String due = characters > 400 ? Due.STATE : "" + characters;
            DUE.is(characters + " characters, the last " + value, due, desk.decode(0, 0, 0));
            boolean kept = characters > 400;
            DUE.is("the stream is empty then, if it was not too long", kept, desk.inner.drain() > 0);
            if (!kept) {
                DUE.is("the last of OUT", (int) '}', desk.out(characters - 1));
                DUE.is("none behind it", Due.INDEX, desk.out(characters));
            }
        }
    }

    private static void give(Desk desk, int tenth, int length, int[] last) {
        desk.give(20);
        for (int i = 0; i < 9; i++) {
            desk.give(40, 0);
        }
        desk.give(tenth == 0 ? new int[] {0} : new int[] {2 * tenth, 0});
        desk.give(0, 2 * length);
        for (int i = 0; i < length; i++) {
            desk.give('x');
        }
        desk.give(last);
    }

    /** What is filled in counts too, its 0: with it. */
    private static void fourHundredWithDefaults() {
        String[] literals = {"S=\"%s\"", "U(S,N)=\"%s\"", "AS=[\"%s\"]", "R(a:U(S,N))={\"%s\"}"};
        int[] around = {2, 4, 4, 6};
        for (int i = 0; i < literals.length; i++) {
            for (int length = 0; length <= 12; length++) {
                Desk desk = new Desk();
                desk.register(0, "R(a:AAN)");
                desk.register(0, "R(a:AAN,z:" + literals[i].replace("%s", "x".repeat(length)) + ")");
                desk.give(20);
                for (int k = 0; k < 9; k++) {
                    desk.give(40, 0);
                }
                desk.give(6, 0, 0);
                // { and ten A, the last one with three, and a comma and the default and }
                int characters = 1 + (9 * 41 + 9 + 2 + 7) + 1 + length + around[i] + 1;
                String due = characters > 400 ? Due.STATE : "" + characters;
                DUE.is(characters + " characters, filled in as " + literals[i], due, desk.decode(0, 0, 1));
            }
        }
    }
}
