import java.util.ArrayList;
import java.util.List;

/** The face of SchemaDesk over the Model; the answers are texts as Desk tells them. */
final class ModelDesk {
    private String text = "";
    private List<Integer> stream = new ArrayList<>();
    private List<Integer> out = new ArrayList<>();
    private final int[] modes = new int[4];
    private final List<List<String>> texts = new ArrayList<>();
    private final List<List<Model.Type>> types = new ArrayList<>();
    private int place = -1;

    ModelDesk() {
        for (int i = 0; i < 4; i++) {
            texts.add(new ArrayList<>());
            types.add(new ArrayList<>());
        }
    }

    boolean write(long characters) {
        String added = "";
        for (int i = 0; i < 8; i++) {
            int code = (int) (characters >> 8 * i & 255);
            if (code != 0 && (code < 32 || code > 126)) {
                return false;
            }
            added += code == 0 ? "" : "" + (char) code;
        }
        if (text.length() + added.length() > 160) {
            return false;
        }
        text += added;
        return true;
    }

    int wipe() {
        int length = text.length();
        text = "";
        return length;
    }

    boolean feed(long bytes, int n) {
        if (n < 1 || n > 8 || stream.size() + n > 64) {
            return false;
        }
        for (int i = 0; i < n; i++) {
            stream.add((int) (bytes >> 8 * i & 255));
        }
        return true;
    }

    int drain() {
        int length = stream.size();
        stream = new ArrayList<>();
        return length;
    }

    String mode(int subject, int mode) {
        if (noSubject(subject) || mode < 0 || mode > 6) {
            return Due.ARGUMENT;
        }
        modes[subject] = mode;
        return "done";
    }

    String register(int subject) {
        if (noSubject(subject)) {
            return Due.ARGUMENT;
        }
        Model.Type type;
        try {
            type = Model.schema(text);
        } catch (Model.Fault e) {
            place = e.place;
            return Due.ARGUMENT;
        }
        int number = texts.get(subject).indexOf(text);
        if (number < 0) {
            number = texts.get(subject).size();
            if (number == 6 || !getsOn(subject, type)) {
                return Due.STATE;
            }
            texts.get(subject).add(text);
            types.get(subject).add(type);
        }
        text = "";
        place = -1;
        return "" + number;
    }

    private boolean getsOn(int subject, Model.Type type) {
        List<Model.Type> all = types.get(subject);
        int mode = modes[subject];
        List<Model.Type> asked = mode >= 4 || all.isEmpty() ? all : all.subList(all.size() - 1, all.size());
        for (Model.Type version : asked) {
            boolean reads = Model.reads(type, version);
            boolean isRead = Model.reads(version, type);
            if ((mode == 1 || mode == 4) && !reads || (mode == 2 || mode == 5) && !isRead
                    || (mode == 3 || mode == 6) && !(reads && isRead)) {
                return false;
            }
        }
        return true;
    }

    String versions(int subject) {
        return noSubject(subject) ? Due.ARGUMENT : "" + types.get(subject).size();
    }

    String reads(int subject, int reader, int writer) {
        if (noVersion(subject, reader) || noVersion(subject, writer)) {
            return Due.ARGUMENT;
        }
        return "" + Model.reads(type(subject, reader), type(subject, writer));
    }

    String print(int subject, int version, boolean bare) {
        if (noVersion(subject, version)) {
            return Due.ARGUMENT;
        }
        return show(bare ? Model.bare(type(subject, version)) : texts.get(subject).get(version));
    }

    String fingerprint(int subject, int version) {
        if (noVersion(subject, version)) {
            return Due.ARGUMENT;
        }
        long f = -4513414715797952619L;
        for (char c : Model.bare(type(subject, version)).toCharArray()) {
            long t = (f & 255) ^ c;
            for (int i = 0; i < 8; i++) {
                t = t % 2 == 0 ? t >>> 1 : t >>> 1 ^ -4513414715797952619L;
            }
            f = f >>> 8 ^ t;
        }
        return "" + f;
    }

    String encode(int subject, int version) {
        if (noVersion(subject, version)) {
            return Due.ARGUMENT;
        }
        Model.Type type = type(subject, version);
        try {
            out = Model.bytes(type, Model.value(type, text));
        } catch (Model.Fault e) {
            place = e.place;
            return Due.ARGUMENT;
        }
        text = "";
        place = -1;
        return "" + out.size();
    }

    String decode(int subject, int writer, int reader) {
        if (noVersion(subject, writer) || noVersion(subject, reader)) {
            return Due.ARGUMENT;
        }
        Model.Type from = type(subject, writer);
        Model.Type to = type(subject, reader);
        String value;
        try {
            value = Model.written(to, Model.resolved(from, new Model.Stream(stream).whole(from), to));
        } catch (Model.Fault e) {
            place = e.place;
            return Due.ARGUMENT;
        } catch (Model.CantBe e) {
            return Due.STATE;
        }
        if (value.length() > 400) {
            return Due.STATE;
        }
        drain();
        place = -1;
        return show(value);
    }

    int place() {
        return place;
    }

    List<Integer> row() {
        return out;
    }

    Model.Type type(int subject, int version) {
        return types.get(subject).get(version);
    }

    int count(int subject) {
        return types.get(subject).size();
    }

    private String show(String shown) {
        out = new ArrayList<>();
        for (char c : shown.toCharArray()) {
            out.add((int) c);
        }
        return "" + shown.length();
    }

    private boolean noSubject(int subject) {
        return subject < 0 || subject > 3;
    }

    private boolean noVersion(int subject, int version) {
        return noSubject(subject) || version < 0 || version >= types.get(subject).size();
    }
}
