/** Promises 6, 7, 8 and 14: mode, register, versions, and what they leave of the text and the place. */
public final class RegisterTest {
    private static final Due DUE = new Due("RegisterTest");
    private static final String[] SIX = {"N", "B", "I", "L", "S", "AN"};

    public static void main(String[] args) {
        mode();
        versions();
        numbers();
        sameText();
        sixVersions();
        latestAlone();
        allVersions();
        modeLeavesVersions();
        orderOfReasons();
        whatItLeaves();
        DUE.end();
    }

    private static void mode() {
        Desk desk = new Desk();
        for (int mode = 0; mode <= 6; mode++) {
            DUE.is("mode " + mode, "done", desk.mode(3, mode));
        }
        int[] wrong = {-1, 7, Integer.MAX_VALUE, Integer.MIN_VALUE};
        for (int mode : wrong) {
            DUE.is("mode " + mode, Due.ARGUMENT, desk.mode(0, mode));
        }
        int[] subjects = {-1, 4, Integer.MAX_VALUE, Integer.MIN_VALUE};
        for (int subject : subjects) {
            DUE.is("mode of subject " + subject, Due.ARGUMENT, desk.mode(subject, 0));
        }
        desk.register(0, "I");
        DUE.is("a mode that was refused is not there", 1, desk.register(0, "S"));
        desk.register(1, "I");
        DUE.is("a mode is of one subject", 1, desk.register(1, "S"));
        desk.register(3, "I");
        DUE.is("the latest mode counts", Due.STATE, desk.register(3, "S"));
    }

    private static void versions() {
        Desk desk = new Desk();
        int[] wrong = {-1, 4, Integer.MAX_VALUE, Integer.MIN_VALUE};
        for (int subject : wrong) {
            DUE.is("versions " + subject, Due.ARGUMENT, desk.versions(subject));
            DUE.is("register " + subject, Due.ARGUMENT, desk.register(subject, "N"));
        }
        for (int subject = 0; subject < 4; subject++) {
            for (int i = 0; i < subject; i++) {
                desk.register(subject, SIX[i]);
            }
        }
        for (int subject = 0; subject < 4; subject++) {
            DUE.is("versions " + subject, subject, desk.versions(subject));
        }
    }

    private static void numbers() {
        Desk desk = new Desk();
        for (int subject = 0; subject < 4; subject++) {
            for (int i = 0; i < 6; i++) {
                DUE.is("register " + SIX[i], i, desk.register(subject, SIX[i]));
            }
        }
        for (int i = 0; i < 6; i++) {
            desk.print(2, i, false);
            DUE.is("version " + i, SIX[i], desk.shown());
        }
    }

    private static void sameText() {
        Desk desk = new Desk();
        desk.register(0, "R(a:I)");
        desk.register(0, "R(a:I=1)");
        desk.register(0, "N");
        DUE.is("same text", 0, desk.register(0, "R(a:I)"));
        DUE.is("same text", 1, desk.register(0, "R(a:I=1)"));
        DUE.is("versions", 3, desk.versions(0));
        desk.mode(0, 6);
        DUE.is("same text whatever the mode", 0, desk.register(0, "R(a:I)"));
        DUE.is("same text, but of another subject", 0, desk.register(1, "R(a:I=1)"));
        desk.mode(0, 0);
        DUE.is("another default is another text", 3, desk.register(0, "R(a:I=2)"));
        DUE.is("a beginning of a text is another text", 4, desk.register(0, "AN"));
    }

    private static void sixVersions() {
        Desk desk = new Desk();
        for (String schema : SIX) {
            desk.register(1, schema);
        }
        DUE.is("a seventh version", Due.STATE, desk.register(1, "AAN"));
        DUE.is("versions", 6, desk.versions(1));
        DUE.is("same text with six", 4, desk.register(1, "S"));
        DUE.is("no schema with six", Due.ARGUMENT, desk.register(1, "X"));
        DUE.is("another subject", 0, desk.register(0, "AAN"));
    }

    /** L reads I, and I does not read L. */
    private static String second(int mode, String first, String second) {
        Desk desk = new Desk();
        desk.register(0, first);
        desk.mode(0, mode);
        return desk.register(0, second);
    }

    private static void latestAlone() {
        for (int add = 0; add <= 3; add += 3) {
            DUE.is("reads", 1, second(1 + add, "I", "L"));
            DUE.is("does not read", Due.STATE, second(1 + add, "L", "I"));
            DUE.is("is read", 1, second(2 + add, "L", "I"));
            DUE.is("is not read", Due.STATE, second(2 + add, "I", "L"));
            DUE.is("reads alone", Due.STATE, second(3 + add, "I", "L"));
            DUE.is("is read alone", Due.STATE, second(3 + add, "L", "I"));
            DUE.is("both", 1, second(3 + add, "R(a:I,b:I=1)", "R(b:I=2,a:I)"));
        }
        DUE.is("mode 0", 1, second(0, "I", "S"));
        for (int mode = 0; mode <= 6; mode++) {
            Desk desk = new Desk();
            desk.mode(2, mode);
            DUE.is("the first in mode " + mode, 0, desk.register(2, "I"));
        }
    }

    private static String third(int mode, String first, String second, String third) {
        Desk desk = new Desk();
        desk.register(0, first);
        desk.register(0, second);
        desk.mode(0, mode);
        return desk.register(0, third);
    }

    private static void allVersions() {
        DUE.is("mode 1 looks at the latest", 2, third(1, "S", "I", "L"));
        DUE.is("mode 4 looks at all", Due.STATE, third(4, "S", "I", "L"));
        DUE.is("mode 4", 2, third(4, "S", "I", "U(L,S)"));
        DUE.is("mode 4 looks at the latest too", Due.STATE, third(4, "I", "S", "L"));
        DUE.is("mode 2 looks at the latest", 2, third(2, "S", "L", "I"));
        DUE.is("mode 5 looks at all", Due.STATE, third(5, "S", "L", "I"));
        DUE.is("mode 5", 2, third(5, "U(S,I)", "L", "I"));
        DUE.is("mode 5 looks at the latest too", Due.STATE, third(5, "L", "S", "I"));
        DUE.is("mode 3 looks at the latest", 2, third(3, "S", "U(N,B)", "U(B,N)"));
        DUE.is("mode 6 looks at all", Due.STATE, third(6, "S", "U(N,B)", "U(B,N)"));
        DUE.is("mode 6", 2, third(6, "R(a:N=N)", "R(b:N=N)", "R(c:N=N)"));
        DUE.is("mode 6 looks at the latest too", Due.STATE, third(6, "U(N,B)", "S", "U(B,N)"));
    }

    private static void modeLeavesVersions() {
        Desk desk = new Desk();
        desk.register(0, "I");
        desk.register(0, "S");
        desk.mode(0, 6);
        DUE.is("versions stay", 2, desk.versions(0));
        DUE.is("and are read still", "false", desk.reads(0, 0, 1));
    }

    private static void orderOfReasons() {
        Desk desk = new Desk();
        for (String schema : SIX) {
            desk.register(0, schema);
        }
        desk.mode(0, 3);
        desk.say("R(a:N,");
        DUE.is("no schema is told first", Due.ARGUMENT, desk.register(0));
        DUE.is("place", 6, desk.inner.place());
        DUE.is("no such subject", Due.ARGUMENT, desk.register(-1));
        DUE.is("it leaves the place", 6, desk.inner.place());
        desk.say("b:B)");
        DUE.is("six versions", Due.STATE, desk.register(0));
        DUE.is("it leaves the place", 6, desk.inner.place());
        DUE.is("another subject", 0, desk.register(1));
        DUE.is("the place is gone", -1, desk.inner.place());
    }

    private static void whatItLeaves() {
        Desk desk = new Desk();
        desk.say("I");
        desk.give(1, 2);
        DUE.is("register", 0, desk.register(0));
        DUE.is("the text is empty then", 0, desk.inner.wipe());
        DUE.is("the stream is as it was", 2, desk.inner.drain());
        desk.say("I");
        DUE.is("same text", 0, desk.register(0));
        DUE.is("the text is empty then, too", 0, desk.inner.wipe());
        desk.mode(0, 1);
        desk.say("S");
        DUE.is("does not get on", Due.STATE, desk.register(0));
        DUE.is("versions", 1, desk.versions(0));
        DUE.is("the text stays", 1, desk.inner.wipe());
        desk.say("S");
        desk.mode(0, 0);
        desk.register(0);
        desk.say("R(a:S)");
        DUE.is("a version has a text of its own", 2, desk.register(0));
        desk.print(0, 1, false);
        DUE.is("version 1", "S", desk.shown());
    }
}
