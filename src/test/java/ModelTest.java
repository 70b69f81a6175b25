import java.util.List;
import java.util.Random;

/** All promises: random runs of calls, each answer held against the Model's. */
public final class ModelTest {
    private static final Due DUE = new Due("ModelTest");
    /** Of the 512 calls that are promised some are left for the round that is begun last. */
    private static final int MOST_CALLS = 450;

    private static int resolved;
    private static int notResolved;
    private static int tooLong;
    private static int read;
    private static int notGotOn;

    private final Maker maker;
    private final Desk desk = new Desk();
    private final ModelDesk model = new ModelDesk();
    private final String run;
    private int calls;

    private ModelTest(long seed) {
        maker = new Maker(new Random(seed));
        run = "run " + seed + ": ";
    }

    public static void main(String[] args) {
        int runs = args.length > 0 ? Integer.parseInt(args[0]) : 6000;
        for (int seed = 0; seed < runs && !DUE.hasWrong(); seed++) {
            new ModelTest(seed).go();
        }
        DUE.is("values were resolved as other versions", true, resolved > runs / 4);
        DUE.is("values could not be resolved", true, notResolved > runs / 4);
        DUE.is("values were too long", true, tooLong > 0);
        DUE.is("versions read others", true, read > runs / 4);
        DUE.is("versions did not get on", true, notGotOn > runs / 4);
        DUE.end();
    }

    private void go() {
        while (calls < MOST_CALLS && !DUE.hasWrong()) {
            int way = maker.below(20);
            if (way < 6) {
                registerSome();
            } else if (way < 10) {
                encodeSome();
            } else if (way < 15) {
                decodeSome();
            } else {
                askSome();
            }
        }
    }

    private void check(String call, Object want, Object got) {
        calls += 2;
        DUE.is(run + call, want, got);
        DUE.is(run + "place behind " + call, model.place(), desk.inner.place());
        if (maker.oneIn(30)) {
            checkOut(call);
        }
    }

    private void checkOut(String call) {
        int needed = model.row().size() + 1;
        if (calls + needed <= MOST_CALLS) {
            calls += needed;
            DUE.is(run + "out behind " + call, model.row(), desk.row());
        }
    }

    private int subject() {
        return maker.oneIn(60) ? maker.below(9) - 4 : maker.oneIn(6) ? maker.below(4) : 0;
    }

    private int version(int subject) {
        int count = subject < 0 || subject > 3 ? 0 : model.count(subject);
        return maker.oneIn(60) || count == 0 ? maker.below(9) - 1 : maker.below(count);
    }

    private void say(String text) {
        for (int i = 0; i < text.length(); i += 8) {
            long packed = 0;
            for (int k = 0; k < 8 && i + k < text.length(); k++) {
                packed |= (long) (text.charAt(i + k) & 255) << (8 * k);
            }
            check("write " + packed, model.write(packed), desk.inner.write(packed));
        }
    }

    private void give(List<Integer> bytes) {
        int at = 0;
        while (at < bytes.size()) {
            int n = Math.min(bytes.size() - at, 1 + maker.below(8));
            long packed = 0xABCD_EF01_2345_6789L << (n * 8 % 64);
            if (n == 8) {
                packed = 0;
            }
            for (int k = 0; k < n; k++) {
                packed &= ~(255L << (8 * k));
                packed |= (long) bytes.get(at + k) << (8 * k);
            }
            check("feed " + packed, model.feed(packed, n), desk.inner.feed(packed, n));
            at += n;
        }
    }

    private void wipe() {
        check("wipe", model.wipe(), desk.inner.wipe());
    }

    private void drain() {
        check("drain", model.drain(), desk.inner.drain());
    }

    private void registerSome() {
        int subject = subject();
        boolean known = subject >= 0 && subject < 4 && model.count(subject) > 0;
        Model.Type type = known && !maker.oneIn(4)
            ? maker.near(model.type(subject, maker.below(model.count(subject))), 5)
            : maker.type(maker.below(7));
        String text = Maker.text(type);
        if (text.length() > 160 && !maker.oneIn(20)) {
            return;
        }
        if (maker.oneIn(3)) {
            int mode = maker.below(8);
            check("mode", model.mode(subject, mode), desk.mode(subject, mode));
        }
        say(maker.oneIn(3) ? maker.spoilt(text) : text);
        String due = model.register(subject);
        check("register " + text, due, desk.register(subject));
        notGotOn += due.equals(Due.STATE) ? 1 : 0;
        if (!maker.oneIn(15)) {
            wipe();
        }
    }

    private void encodeSome() {
        int subject = subject();
        int version = version(subject);
        if (model.versions(subject).equals(Due.ARGUMENT) || version < 0 || version >= model.count(subject)) {
            check("encode", model.encode(subject, version), desk.encode(subject, version));
            return;
        }
        Model.Type type = model.type(subject, version);
        String text = Model.written(type, maker.value(type));
        if (text.length() > 160 && !maker.oneIn(20)) {
            return;
        }
        say(maker.oneIn(3) ? maker.spoilt(text) : text);
        check("encode " + text, model.encode(subject, version), desk.encode(subject, version));
        checkOut("encode " + text);
        if (!maker.oneIn(15)) {
            wipe();
        }
    }

    private void decodeSome() {
        int subject = subject();
        int writer = version(subject);
        int reader = version(subject);
        if (model.versions(subject).equals(Due.ARGUMENT) || writer < 0 || writer >= model.count(subject)) {
            check("decode", model.decode(subject, writer, reader), desk.decode(subject, writer, reader));
            return;
        }
        Model.Type type = model.type(subject, writer);
        List<Integer> bytes = maker.stream(type, maker.value(type));
        if (bytes.size() > 64 && !maker.oneIn(20)) {
            return;
        }
        give(maker.oneIn(3) ? maker.spoilt(bytes) : bytes);
        String due = model.decode(subject, writer, reader);
        check("decode " + bytes, due, desk.decode(subject, writer, reader));
        checkOut("decode " + bytes);
        count(due, subject, writer, reader);
        if (!maker.oneIn(15)) {
            drain();
        }
    }

    private void count(String due, int subject, int writer, int reader) {
        if (due.equals(Due.STATE)) {
            boolean reads = Model.reads(model.type(subject, reader), model.type(subject, writer));
            tooLong += reads ? 1 : 0;
            notResolved += reads ? 0 : 1;
        } else if (!due.equals(Due.ARGUMENT) && writer != reader) {
            resolved++;
        }
    }

    private void askSome() {
        int subject = subject();
        int one = version(subject);
        int other = version(subject);
        boolean bare = maker.oneIn(2);
        check("versions", model.versions(subject), desk.versions(subject));
        String due = model.reads(subject, one, other);
        check("reads " + one + " " + other, due, desk.reads(subject, one, other));
        read += due.equals("true") && one != other ? 1 : 0;
        check("print " + one, model.print(subject, one, bare), desk.print(subject, one, bare));
        checkOut("print");
        check("fingerprint " + one, model.fingerprint(subject, one), desk.fingerprint(subject, one));
    }
}
