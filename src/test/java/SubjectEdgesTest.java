import java.util.List;
import java.util.function.Function;
import java.util.function.Supplier;

/** The Terms' sentences on subjects, versions, modes, and on what a call that throws changes. */
public final class SubjectEdgesTest {
    private static final Due DUE = new Due("SubjectEdgesTest");
    private static final int[] NO_SUBJECTS = {-1, 4, 5, -4, 256, Integer.MAX_VALUE, Integer.MIN_VALUE};
    private static final int[] NO_VERSIONS = {-1, 4, 5, 6, 256, Integer.MAX_VALUE, Integer.MIN_VALUE};
    private static final String[] SIX = {"N", "B", "I", "L", "S", "AN"};

    public static void main(String[] args) {
        settledTellsAll();
        fourSubjects();
        noSuchSubject();
        noSuchVersion();
        sixVersions();
        modeAtFirst();
        modesOneByOne();
        getsOnByMode();
        withTheLatestOrAll();
        withItsOwnAlone();
        askingChangesNothing();
        changesNothingElse();
        registerThatThrows();
        encodeThatThrows();
        decodeThatThrows();
        othersThatThrow();
        refusedWithoutThrowing();
        firstReasonOfRegister();
        firstReasonOfDecode();
        outIsMadeEmpty();
        DUE.end();
    }

    /** What the tests below lean on: the state is as it is meant to be, and what changes is told. */
    private static void settledTellsAll() {
        List<String> told = Settled.begun().told();
        DUE.is("place", "place as is due: true", told.get(0));
        DUE.is("out", "out " + Settled.OUT, told.get(1));
        DUE.is("mode", "mode " + Settled.MODE + " and " + Settled.OTHER_MODE, told.get(told.size() - 1));
        DUE.is("text", true, told.contains("text as a value: 7 [6, 120, 32, 121, 2, 14, 0]"));
        DUE.is("stream", true, told.contains("stream: 12 {\"xy\",[1,2]}"));
        for (int mode = 0; mode <= 6; mode++) {
            Settled settled = Settled.begun();
            settled.desk.mode(Settled.PAIRED, mode);
            List<String> other = settled.told();
            DUE.is("mode", "mode " + mode + " and " + Settled.OTHER_MODE, other.get(other.size() - 1));
        }
        changes("wipe", d -> d.inner.wipe());
        changes("write", d -> d.inner.write('1'));
        changes("drain", d -> d.inner.drain());
        changes("feed", d -> d.inner.feed(4, 1));
        changes("mode", d -> d.mode(Settled.PAIRED, 2));
        changes("print", d -> d.print(Settled.READING, 0, false));
        changes("another place", d -> d.encode(Settled.READING, 0));
        changes("another version", d -> d.register(Settled.READING, "S"));
    }

    private static void changes(String call, Function<Desk, Object> does) {
        Settled settled = Settled.begun();
        does.apply(settled.desk);
        DUE.is(call + " is told", false, settled.told().equals(Settled.begun().told()));
    }

    /** A call answers as is due, and leaves all as it was but for the place, which is told. */
    private static void leaves(String call, Object due, int place, Supplier<Settled> made, Function<Desk, Object> does) {
        Settled settled = made.get();
        DUE.is(call, due, does.apply(settled.desk));
        DUE.is("what is left behind " + call, made.get().told(), settled.told(place));
    }

    /** The same, with the text and the stream begun, and the place left too. */
    private static void leaves(String call, Object due, Function<Desk, Object> does) {
        leaves(call, due, Settled.PLACE, Settled::begun, does);
    }

    /** "SUBJECTS are 0 .. 3" */
    private static void fourSubjects() {
        Desk desk = new Desk();
        for (int subject = 0; subject < 4; subject++) {
            DUE.is("mode of " + subject, "done", desk.mode(subject, 0));
            DUE.is("versions of " + subject, 0, desk.versions(subject));
            DUE.is("register in " + subject, 0, desk.register(subject, SIX[subject]));
        }
        for (int subject = 0; subject < 4; subject++) {
            DUE.is("versions of " + subject, 1, desk.versions(subject));
            DUE.is("reads in " + subject, true, desk.reads(subject, 0, 0));
            DUE.is("print in " + subject, 1, desk.print(subject, 0, false));
            DUE.is("its own version", SIX[subject], desk.shown());
        }
    }

    /** "illegal argument: also if there is no such subject": in each call, and nothing changes, not even the place. */
    private static void noSuchSubject() {
        for (int none : NO_SUBJECTS) {
            leaves("mode of " + none, Due.ARGUMENT, d -> d.mode(none, 0));
            leaves("register in " + none, Due.ARGUMENT, d -> d.register(none));
            leaves("versions of " + none, Due.ARGUMENT, d -> d.versions(none));
            leaves("reads in " + none, Due.ARGUMENT, d -> d.reads(none, 0, 0));
            leaves("print in " + none, Due.ARGUMENT, d -> d.print(none, 0, true));
            leaves("fingerprint in " + none, Due.ARGUMENT, d -> d.fingerprint(none, 0));
            leaves("encode in " + none, Due.ARGUMENT, d -> d.encode(none, 0));
            leaves("decode in " + none, Due.ARGUMENT, d -> d.decode(none, 0, 0));
        }
    }

    /** "or version": a subject with four versions has none of these. */
    private static void noSuchVersion() {
        int subject = Settled.READING;
        for (int none : NO_VERSIONS) {
            leaves("reads by " + none, Due.ARGUMENT, d -> d.reads(subject, none, 0));
            leaves("reads of " + none, Due.ARGUMENT, d -> d.reads(subject, 0, none));
            leaves("print of " + none, Due.ARGUMENT, d -> d.print(subject, none, false));
            leaves("print of " + none + " bare", Due.ARGUMENT, d -> d.print(subject, none, true));
            leaves("fingerprint of " + none, Due.ARGUMENT, d -> d.fingerprint(subject, none));
            leaves("encode of " + none, Due.ARGUMENT, d -> d.encode(subject, none));
            leaves("decode from " + none, Due.ARGUMENT, d -> d.decode(subject, none, 0));
            leaves("decode to " + none, Due.ARGUMENT, d -> d.decode(subject, 0, none));
        }
        Desk desk = new Desk();
        DUE.is("print of 0 where there is none", Due.ARGUMENT, desk.print(0, 0, false));
        DUE.is("encode of 0 where there is none", Due.ARGUMENT, desk.encode(0, 0));
        DUE.is("decode of 0 where there is none", Due.ARGUMENT, desk.decode(0, 0, 0));
        DUE.is("fingerprint of 0 where there is none", Due.ARGUMENT, desk.fingerprint(0, 0));
        DUE.is("reads of 0 where there is none", Due.ARGUMENT, desk.reads(0, 0, 0));
        DUE.is("place", -1, desk.inner.place());
    }

    /** "at most six VERSIONS, schemas numbered 0, 1, .. " */
    private static void sixVersions() {
        Desk desk = new Desk();
        for (int i = 0; i < 6; i++) {
            DUE.is("print before version " + i + " is there", Due.ARGUMENT, desk.print(3, i, false));
            DUE.is("register", i, desk.register(3, SIX[i]));
            DUE.is("versions", i + 1, desk.versions(3));
            DUE.is("print of version " + i, SIX[i].length(), desk.print(3, i, false));
            DUE.is("version " + i, SIX[i], desk.shown());
        }
        DUE.is("a seventh", Due.STATE, desk.register(3, "AB"));
        DUE.is("versions", 6, desk.versions(3));
        DUE.is("print of a seventh", Due.ARGUMENT, desk.print(3, 6, false));
    }

    /** "each has a MODE 0 .. 6, 0 at first" */
    private static void modeAtFirst() {
        for (int subject = 0; subject < 4; subject++) {
            Desk desk = new Desk();
            for (int i = 0; i < 6; i++) {
                DUE.is("a schema that gets on by mode 0 alone", i, desk.register(subject, SIX[5 - i]));
            }
        }
    }

    /** A mode is of its own subject, and the latest one counts. */
    private static void modesOneByOne() {
        Desk desk = new Desk();
        for (int subject = 0; subject < 4; subject++) {
            desk.register(subject, "I");
            desk.mode(subject, 6 - subject);
        }
        desk.mode(1, 0);
        DUE.is("mode 6", Due.STATE, desk.register(0, "L"));
        DUE.is("mode 0", 1, desk.register(1, "L"));
        DUE.is("mode 4", 1, desk.register(2, "L"));
        DUE.is("mode 3", Due.STATE, desk.register(3, "L"));
    }

    /** "by mode 0: always; 1: if it reads it; 2: if it is read by it; 3: both; 4, 5, 6 as 1, 2, 3" */
    private static void getsOnByMode() {
        getsOn("S", false, false);
        getsOn("U(N,I,S)", true, false);
        getsOn("N", false, true);
        getsOn("U(I,N)", true, true);
    }

    /** Whether a schema is let in behind U(N,I), which it reads, or by which it is read. */
    private static void getsOn(String schema, boolean reads, boolean isRead) {
        boolean[] getOn = {true, reads, isRead, reads && isRead, reads, isRead, reads && isRead};
        for (int mode = 0; mode <= 6; mode++) {
            Desk desk = new Desk();
            desk.register(0, "U(N,I)");
            desk.mode(0, mode);
            DUE.is(schema + " by mode " + mode, getOn[mode] ? "1" : Due.STATE, desk.register(0, schema));
            DUE.is("versions", getOn[mode] ? 2 : 1, desk.versions(0));
        }
    }

    /** "with the latest one (modes 0 to 3; with all of them for modes 4 to 6)": an S is among five others that get on. */
    private static void withTheLatestOrAll() {
        String[] others = {"U(N,B,I)", "U(N,I,B)", "U(B,N,I)", "U(B,I,N)", "U(I,N,B)"};
        for (int mode = 0; mode <= 6; mode++) {
            for (int odd = 0; odd < 5; odd++) {
                Desk desk = new Desk();
                for (int i = 0; i < 5; i++) {
                    desk.register(0, i == odd ? "S" : others[i]);
                }
                desk.mode(0, mode);
                boolean fine = mode == 0 || mode <= 3 && odd < 4;
                DUE.is("by mode " + mode + ", an S is version " + odd, fine ? "5" : Due.STATE, desk.register(0, "U(I,B,N)"));
            }
            Desk desk = new Desk();
            desk.mode(0, mode);
            for (int i = 0; i < 5; i++) {
                DUE.is("by mode " + mode + " without an S", i, desk.register(0, others[i]));
            }
        }
    }

    /** A schema gets on with the versions of its own subject; those of others do not count. */
    private static void withItsOwnAlone() {
        for (int mode = 0; mode <= 6; mode++) {
            Desk desk = new Desk();
            for (int subject = 0; subject < 4; subject++) {
                desk.mode(subject, mode);
                DUE.is("the first by mode " + mode, 0, desk.register(subject, SIX[subject]));
            }
            for (int subject = 0; subject < 4; subject++) {
                DUE.is("another one by mode " + mode, mode == 0 ? "1" : Due.STATE, desk.register(subject, "AB"));
            }
        }
    }

    /** Calls that only ask leave text, stream, OUT, versions, modes and the place as they are. */
    private static void askingChangesNothing() {
        leaves("versions", 4, d -> d.versions(Settled.READING));
        leaves("reads", false, d -> d.reads(Settled.READING, 1, 2));
        leaves("reads", true, d -> d.reads(Settled.READING, 0, 1));
        leaves("fingerprint", "true", d -> "" + (d.fingerprint(Settled.READING, 0).length() > 1));
        leaves("place", Settled.PLACE, d -> d.inner.place());
        leaves("out", 12, d -> d.out(0));
        leaves("write of nothing", true, d -> d.inner.write(0));
    }

    /** Calls that are not refused change what their promise says, and nothing else. */
    private static void changesNothingElse() {
        Supplier<Settled> schema = () -> withText("AL", "");
        Supplier<Settled> sameText = () -> withText("R(b:I,a:I)", "");
        Supplier<Settled> value = () -> withText("{\"a\",[]}", "");
        Supplier<Settled> stream = () -> withStream(new int[] {0, 0});
        int subject = Settled.READING;
        changesOnly("write", "text", true, Settled::begun, d -> d.inner.write('1'));
        changesOnly("wipe", "text", 9, Settled::begun, d -> d.inner.wipe());
        changesOnly("feed", "stream", true, Settled::begun, d -> d.inner.feed(1, 1));
        changesOnly("drain", "stream", 5, Settled::begun, d -> d.inner.drain());
        changesOnly("mode", "mode", "done", Settled::begun, d -> d.mode(Settled.PAIRED, 2));
        changesOnly("print", "out", 11, Settled::begun, d -> d.print(subject, 0, false));
        changesOnly("register", "text versions place", 4, schema, d -> d.register(subject));
        changesOnly("register of the same text", "text place", 2, sameText, d -> d.register(subject));
        changesOnly("encode", "text out place", 3, value, d -> d.encode(subject, 0));
        changesOnly("decode", "stream out place", 7, stream, d -> d.decode(subject, 0, 0));
    }

    private static void changesOnly(String call, String what, Object due, Supplier<Settled> made,
            Function<Desk, Object> does) {
        Settled settled = made.get();
        DUE.is(call, due, does.apply(settled.desk));
        List<String> told = settled.told();
        List<String> before = made.get().told();
        DUE.is(call + " changes something", false, told.equals(before));
        for (String one : what.split(" ")) {
            told.removeIf(line -> line.startsWith(one));
            before.removeIf(line -> line.startsWith(one));
        }
        DUE.is("all else behind " + call, before, told);
    }

    private static Settled withText(String text, String textEnd) {
        return new Settled(text, textEnd, new int[] {4, 120}, 121, 0);
    }

    /** "A call that throws changes nothing but what place() tells": register. */
    private static void registerThatThrows() {
        leaves("register of a text begun", Due.ARGUMENT, 8, () -> withText("R(a:N,b:", "B)"), d -> d.register(Settled.PAIRED));
        leaves("register of a wrong text", Due.ARGUMENT, 6, () -> withText("R(a:N,a:N)", ""), d -> d.register(Settled.PAIRED));
        leaves("register of no text", Due.ARGUMENT, 0, () -> withText("", "E(abc=b)"), d -> d.register(Settled.PAIRED));
        leaves("register in a full one", Due.STATE, Settled.PLACE, () -> withText("AL", ""), d -> d.register(Settled.FULL));
        leaves("register of what does not get on", Due.STATE, Settled.PLACE, () -> withText("E(abc=b)", ""),
            d -> d.register(Settled.PAIRED));
    }

    /** "A call that throws changes nothing but what place() tells": encode. */
    private static void encodeThatThrows() {
        leaves("encode of a text begun", Due.ARGUMENT, 9, Settled::begun, d -> d.encode(Settled.READING, 0));
        leaves("encode of a wrong text", Due.ARGUMENT, 1, Settled::begun, d -> d.encode(Settled.READING, 2));
        leaves("encode of no text", Due.ARGUMENT, 0, () -> withText("", "{\"\",[]}"), d -> d.encode(Settled.READING, 0));
        leaves("encode of a schema", Due.ARGUMENT, 0, () -> withText("AL", ""), d -> d.encode(Settled.READING, 0));
    }

    /** "A call that throws changes nothing but what place() tells": decode. */
    private static void decodeThatThrows() {
        int subject = Settled.READING;
        leaves("decode of a stream begun", Due.ARGUMENT, 5, Settled::begun, d -> d.decode(subject, 0, 0));
        leaves("decode of a wrong stream", Due.ARGUMENT, 2, Settled::begun, d -> d.decode(subject, 2, 2));
        leaves("decode of no stream", Due.ARGUMENT, 0, () -> withStream(new int[0], 0, 0), d -> d.decode(subject, 0, 0));
        leaves("decode of what can't be resolved", Due.STATE, Settled.PLACE, () -> withStream(new int[] {0, 0}),
            d -> d.decode(subject, 0, 2));
        leaves("decode of what is half resolved", Due.STATE, Settled.PLACE, () -> withStream(new int[] {2, 120, 2, 4, 0}),
            d -> d.decode(subject, 0, 3));
        leaves("decode of what gets too long", Due.STATE, Settled.PLACE, SubjectEdgesTest::withLongStream,
            d -> d.decode(Settled.LONG, 0, 0));
    }

    private static Settled withStream(int[] stream, int... streamEnd) {
        return new Settled("{\"", "\",[]}", stream, streamEnd);
    }

    /** Twenty A of twenty N are far more than 400 characters. */
    private static Settled withLongStream() {
        int[] stream = new int[42];
        java.util.Arrays.fill(stream, 0, 1, 40);
        for (int i = 1; i < 41; i += 2) {
            stream[i] = 40;
        }
        return withStream(stream);
    }

    /** "Illegal argument: also if mode is not 0 .. 6", "Index out of bounds: there is none" and what they leave. */
    private static void othersThatThrow() {
        for (int mode : new int[] {-1, 7, 8, -7, 256, Integer.MAX_VALUE, Integer.MIN_VALUE}) {
            leaves("mode " + mode, Due.ARGUMENT, d -> d.mode(Settled.PAIRED, mode));
        }
        for (int i : new int[] {-1, 2, 3, 400, Integer.MAX_VALUE, Integer.MIN_VALUE}) {
            leaves("out " + i, Due.INDEX, d -> d.out(i));
        }
    }

    /** "False, adding none": write and feed. */
    private static void refusedWithoutThrowing() {
        leaves("write of no character", false, d -> d.inner.write(0x1F313131L));
        leaves("write of no character", false, d -> d.inner.write(0x3131317FL));
        leaves("write of what is above", false, d -> d.inner.write(0x3100000000000080L));
        leaves("feed of none", false, d -> d.inner.feed(0x0102L, 0));
        leaves("feed of nine", false, d -> d.inner.feed(0x0102L, 9));
        leaves("feed of less than none", false, d -> d.inner.feed(0x0102L, -1));
    }

    /** "of several reasons the exception named first is thrown": illegal argument before illegal state. */
    private static void firstReasonOfRegister() {
        leaves("no schema, and there are six", Due.ARGUMENT, 1, () -> withText("A", "L"), d -> d.register(Settled.FULL));
        leaves("no schema, and none would get on", Due.ARGUMENT, 2, () -> withText("R(", "x:S)"),
            d -> d.register(Settled.PAIRED));
        leaves("no subject, and no schema", Due.ARGUMENT, Settled.PLACE, () -> withText("A", "L"), d -> d.register(4));
    }

    /** "of several reasons the exception named first is thrown": decode. */
    private static void firstReasonOfDecode() {
        int subject = Settled.READING;
        leaves("can't be read, nor be resolved", Due.ARGUMENT, 5, Settled::begun, d -> d.decode(subject, 0, 2));
        leaves("no version, and can't be resolved", Due.ARGUMENT, Settled.PLACE, () -> withStream(new int[] {0, 0}),
            d -> d.decode(subject, 0, 9));
        leaves("too much, and can't be resolved", Due.ARGUMENT, 2, () -> withStream(new int[] {0, 0, 0}),
            d -> d.decode(subject, 0, 2));
    }

    /** "All that fill OUT make it empty before": a shorter one leaves nothing of a longer one. */
    private static void outIsMadeEmpty() {
        Desk desk = new Desk();
        desk.register(0, "R(a:S=\"123456789012\",b:N=N)");
        desk.register(1, "AN");
        desk.print(0, 0, false);
        DUE.is("print", "R(a:S=\"123456789012\",b:N=N)", desk.shown());
        DUE.is("print bare", 10, desk.print(0, 0, true));
        DUE.is("print bare", "R(a:S,b:N)", desk.shown());
        desk.print(0, 0, false);
        DUE.is("encode", "[4, 0]", desk.encode(1, 0, "[N,N]"));
        desk.print(0, 0, false);
        DUE.is("decode", "[]", desk.decode(1, 0, 0, 0));
        desk.print(0, 0, false);
        desk.print(1, 0, false);
        DUE.is("print", "AN", desk.shown());
        desk.register(2, "N");
        DUE.is("encode to nothing", "[]", desk.encode(2, 0, "N"));
        DUE.is("out", Due.INDEX, desk.out(0));
    }
}
