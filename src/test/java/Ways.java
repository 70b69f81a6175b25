import java.util.function.IntUnaryOperator;

/**
 * What may come next behind a beginning, found by trying everything: so the last that is allowed and the first that is
 * not are both in the answer. END stands first if the beginning is a whole already.
 */
final class Ways {
    static final String END = "end ";
    static final String TYPES = "ABEILNRSU";
    static final String LETTERS = span('a', 'z');
    static final String DIGITS = span('0', '9');
    static final String CHARACTERS = span(' ', '~');

    private static final int WHOLE = -1;

    private Ways() {
    }

    static String span(char first, char last) {
        StringBuilder all = new StringBuilder();
        for (char c = first; c <= last; c++) {
            all.append(c);
        }
        return all.toString();
    }

    static String without(String set, String left) {
        return set.replaceAll("[" + left + "]", "");
    }

    /** The characters that may follow in a schema. */
    static String schema(String begun) {
        return characters(begun.length(), placeInSchema(begun), c -> placeInSchema(begun + (char) c));
    }

    /** The characters that may follow in a value of a schema. */
    static String value(String schema, String begun) {
        return characters(begun.length(), placeInValue(schema, begun), c -> placeInValue(schema, begun + (char) c));
    }

    /** The bytes that may follow in a stream that is read as a schema; those in a row as first..last. */
    static String stream(String schema, int... begun) {
        StringBuilder all = new StringBuilder(placeInStream(schema, begun) == WHOLE ? END : "");
        int[] more = java.util.Arrays.copyOf(begun, begun.length + 1);
        int first = -1;
        for (int b = 0; b <= 256; b++) {
            more[begun.length] = b;
            boolean may = b < 256 && isWay(begun.length, placeInStream(schema, more));
            if (may && first < 0) {
                first = b;
            } else if (!may && first >= 0) {
                all.append(first).append(b - 1 > first ? ".." + (b - 1) : "").append(' ');
                first = -1;
            }
        }
        return all.toString().trim();
    }

    private static String characters(int length, int placeOfBegun, IntUnaryOperator placeWith) {
        StringBuilder all = new StringBuilder(placeOfBegun == WHOLE ? END : "");
        for (char c = ' '; c <= '~'; c++) {
            if (isWay(length, placeWith.applyAsInt(c))) {
                all.append(c);
            }
        }
        return all.toString();
    }

    /** One more is a way on if all of it is in order; if it is none, the beginning still must be. */
    private static boolean isWay(int length, int place) {
        if (place != WHOLE && place != length && place != length + 1) {
            throw new IllegalStateException("the beginning ends at " + place + " already, not at " + length);
        }
        return place != length;
    }

    private static int placeInSchema(String text) {
        Desk desk = new Desk();
        mustBeTaken(desk.say(text));
        return placeBehind(desk, desk.register(0));
    }

    private static int placeInValue(String schema, String text) {
        Desk desk = new Desk();
        mustBeTaken(desk.register(0, schema).equals("0"));
        mustBeTaken(desk.say(text));
        return placeBehind(desk, desk.encode(0, 0));
    }

    private static int placeInStream(String schema, int... bytes) {
        Desk desk = new Desk();
        mustBeTaken(desk.register(0, schema).equals("0"));
        mustBeTaken(desk.give(bytes));
        return placeBehind(desk, desk.decode(0, 0, 0));
    }

    private static void mustBeTaken(boolean taken) {
        if (!taken) {
            throw new IllegalStateException("there is no room for it, or the schema is none");
        }
    }

    private static int placeBehind(Desk desk, String answer) {
        return answer.equals(Due.ARGUMENT) ? desk.inner.place() : WHOLE;
    }
}
