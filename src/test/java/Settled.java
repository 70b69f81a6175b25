import java.util.ArrayList;
import java.util.List;

/**
 * A desk in which everything is set to something that can be told: versions, modes, text, stream, OUT and place. What
 * told() answers is all that can be found out about it, so two desks that tell the same are in the same state.
 */
final class Settled {
    /** Neither reads the other, so that each mode lets other schemas in behind them. */
    static final String[] PAIR = {"U(L,S)", "U(L,B)"};
    /** For each mode the schema behind the PAIR that it lets in and that no later mode lets in. */
    private static final String[] LET_IN = {"AN", "U(L,B,N)", "B", "U(B,L)", "U(L,S,B)", "L"};
    private static final String[] SIX = {"AAN", "B", "I", "L", "S", "AN"};

    /** Two with the PAIR, one whose versions read what stands in text and stream, and one that is full. */
    static final int PAIRED = 0;
    static final int READING = 1;
    static final int FULL = 2;
    /** Its first version is an A of A of N. */
    static final int LONG = FULL;
    static final int OTHER_PAIRED = 3;

    static final int MODE = 5;
    static final int OTHER_MODE = 3;
    static final int PLACE = 3;
    static final String OUT = "[12, 34]";

    final Desk desk = new Desk();
    private final String textEnd;
    private final int[] streamEnd;

    /** The text and the stream, and what makes them a value of R(a:S,b:AI) or, the text, a schema. */
    Settled(String text, String textEnd, int[] stream, int... streamEnd) {
        this.textEnd = textEnd;
        this.streamEnd = streamEnd;
        for (String schema : PAIR) {
            desk.register(PAIRED, schema);
            desk.register(OTHER_PAIRED, schema);
        }
        for (String schema : SIX) {
            desk.register(FULL, schema);
        }
        desk.register(READING, "R(a:S,b:AI)");
        desk.register(READING, "R(a:S,b:AI,c:N)");
        desk.register(READING, "R(b:I,a:I)");
        desk.register(READING, "R(a:S,b:AU(N,B))");
        desk.mode(PAIRED, MODE);
        desk.mode(OTHER_PAIRED, OTHER_MODE);
        desk.mode(FULL, 1);
        desk.encode(READING, 2, "{6,17}");
        desk.register(PAIRED, "R(a");
        desk.say(text);
        desk.give(stream);
    }

    /** With a text and a stream that were begun. */
    static Settled begun() {
        return new Settled("{\"x y\",[7", "]}", new int[] {4, 120, 121, 4, 2}, 4, 0);
    }

    List<String> told() {
        return told(PLACE);
    }

    /**
     * All that can be found out, each line beginning with what it is about; the desk is used up by this. The place must be
     * the one that is given.
     */
    List<String> told(int place) {
        List<String> all = new ArrayList<>();
        all.add("place as is due: " + (desk.inner.place() == place));
        all.add("out " + desk.numbers());
        for (int subject = 0; subject < 4; subject++) {
            tellVersions(subject, all);
        }
        tellText(all);
        tellStream(all);
        all.add("mode " + mode(PAIRED) + " and " + mode(OTHER_PAIRED));
        return all;
    }

    private void tellVersions(int subject, List<String> all) {
        int count = desk.inner.versions(subject);
        for (int i = 0; i < count; i++) {
            desk.print(subject, i, false);
            all.add("versions of " + subject + ": " + desk.shown());
        }
    }

    private void tellText(List<String> all) {
        desk.say(textEnd);
        all.add("text as a value: " + desk.encode(READING, 0) + " " + desk.numbers());
        all.add("text as a schema: " + desk.register(READING));
        all.add("text that is left: " + desk.inner.wipe());
    }

    private void tellStream(List<String> all) {
        desk.give(streamEnd);
        all.add("stream: " + desk.decode(READING, 0, 0) + " " + (desk.inner.place() < 0 ? desk.shown() : ""));
        all.add("stream that is left: " + desk.inner.drain());
    }

    /** The mode of a subject that has the PAIR. */
    private int mode(int subject) {
        for (int mode = 0; mode < LET_IN.length; mode++) {
            if (desk.register(subject, LET_IN[mode]).equals("2")) {
                return mode;
            }
        }
        return LET_IN.length;
    }
}
