import java.util.ArrayList;
import java.util.List;

/** A SchemaDesk that is spoken to in texts; each answer is a text, throws.Name for an exception. */
final class Desk {
    final SchemaDesk inner = new SchemaDesk();

    boolean say(String text) {
        for (int i = 0; i < text.length(); i += 8) {
            long packed = 0;
            for (int k = 0; k < 8 && i + k < text.length(); k++) {
                packed |= (long) (text.charAt(i + k) & 255) << (8 * k);
            }
            if (!inner.write(packed)) {
                return false;
            }
        }
        return true;
    }

    boolean give(int... bytes) {
        for (int b : bytes) {
            if (!inner.feed(b, 1)) {
                return false;
            }
        }
        return true;
    }

    String register(int subject) {
        try {
            return "" + inner.register(subject);
        } catch (RuntimeException e) {
            return thrown(e);
        }
    }

    /** Registers a text of its own; what was there is wiped before, and what is left of it after. */
    String register(int subject, String schema) {
        inner.wipe();
        say(schema);
        String answer = register(subject);
        inner.wipe();
        return answer;
    }

    String mode(int subject, int mode) {
        try {
            inner.mode(subject, mode);
            return "done";
        } catch (RuntimeException e) {
            return thrown(e);
        }
    }

    String versions(int subject) {
        try {
            return "" + inner.versions(subject);
        } catch (RuntimeException e) {
            return thrown(e);
        }
    }

    String reads(int subject, int reader, int writer) {
        try {
            return "" + inner.reads(subject, reader, writer);
        } catch (RuntimeException e) {
            return thrown(e);
        }
    }

    String print(int subject, int version, boolean bare) {
        try {
            return "" + inner.print(subject, version, bare);
        } catch (RuntimeException e) {
            return thrown(e);
        }
    }

    String fingerprint(int subject, int version) {
        try {
            return "" + inner.fingerprint(subject, version);
        } catch (RuntimeException e) {
            return thrown(e);
        }
    }

    String encode(int subject, int version) {
        try {
            return "" + inner.encode(subject, version);
        } catch (RuntimeException e) {
            return thrown(e);
        }
    }

    /** Encodes a text of its own: the bytes, or what was thrown and the place. */
    String encode(int subject, int version, String value) {
        inner.wipe();
        say(value);
        String answer = encode(subject, version);
        inner.wipe();
        return answer.startsWith("throws") ? answer + " at " + inner.place() : numbers();
    }

    String decode(int subject, int writer, int reader) {
        try {
            return "" + inner.decode(subject, writer, reader);
        } catch (RuntimeException e) {
            return thrown(e);
        }
    }

    /** Decodes a stream of its own: the value, or what was thrown and, if it was for the stream, the place. */
    String decode(int subject, int writer, int reader, int... bytes) {
        inner.drain();
        give(bytes);
        String answer = decode(subject, writer, reader);
        inner.drain();
        if (!answer.startsWith("throws")) {
            return shown();
        }
        return answer.endsWith("IllegalArgumentException") ? answer + " at " + inner.place() : answer;
    }

    String out(int i) {
        try {
            return "" + inner.out(i);
        } catch (RuntimeException e) {
            return thrown(e);
        }
    }

    List<Integer> row() {
        List<Integer> row = new ArrayList<>();
        for (int i = 0; i < 1000; i++) {
            String number = out(i);
            if (number.startsWith("throws")) {
                return row;
            }
            row.add(Integer.parseInt(number));
        }
        return row;
    }

    String numbers() {
        return row().toString();
    }

    String shown() {
        StringBuilder text = new StringBuilder();
        for (int code : row()) {
            text.append((char) code);
        }
        return text.toString();
    }

    private static String thrown(RuntimeException e) {
        return "throws." + e.getClass().getSimpleName();
    }
}
