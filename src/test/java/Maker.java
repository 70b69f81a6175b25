import java.math.BigInteger;
import java.util.ArrayList;
import java.util.Collections;
import java.util.List;
import java.util.Random;

/** Makes schemas, values and streams from a seed, right ones and spoilt ones. */
final class Maker {
    private static final String MARKS = "NBILSEAURTF()[]{},:=\"-0123456789abcxyz ~";
    private final Random random;

    Maker(Random random) {
        this.random = random;
    }

    int below(int n) {
        return random.nextInt(n);
    }

    boolean oneIn(int n) {
        return random.nextInt(n) == 0;
    }

    Model.Type type(int levels) {
        String kinds = levels > 0 ? "NBILSEAURRAU" : "NBILSE";
        return typeOf(kinds.charAt(below(kinds.length())), levels);
    }

    private Model.Type typeOf(char kind, int levels) {
        Model.Type type = new Model.Type(kind);
        if (kind == 'E') {
            type.symbols = symbols();
            type.symbolDefault = oneIn(3) ? type.symbols.charAt(below(type.symbols.length())) : null;
        } else if (kind == 'A') {
            type.parts.add(type(levels - 1));
        } else if (kind == 'U') {
            List<Character> kinds = letters(levels > 1 ? "NBILSEAR" : "NBILSE");
            int count = 2 + below(3);
            for (int i = 0; i < count; i++) {
                type.parts.add(typeOf(kinds.get(i), levels - 1));
            }
        } else if (kind == 'R') {
            int count = 1 + below(oneIn(4) ? 6 : 3);
            List<Character> names = letters("abcdefg");
            for (int i = 0; i < count; i++) {
                addField(type, names.get(i), type(levels - 1));
            }
        }
        return type;
    }

    private void addField(Model.Type record, char name, Model.Type part) {
        record.names.add(name);
        record.parts.add(part);
        record.defaults.add(oneIn(2) ? literal(part) : null);
    }

    private List<Character> letters(String set) {
        List<Character> letters = new ArrayList<>();
        for (char c : set.toCharArray()) {
            letters.add(c);
        }
        Collections.shuffle(letters, random);
        return letters;
    }

    private String symbols() {
        StringBuilder symbols = new StringBuilder();
        List<Character> letters = letters(oneIn(3) ? "stuvwxyz" : "xyz");
        int count = 1 + below(letters.size());
        for (int i = 0; i < count; i++) {
            symbols.append(letters.get(i));
        }
        return symbols.toString();
    }

    /** A type that is near to another one. */
    Model.Type near(Model.Type old, int levels) {
        if (oneIn(12)) {
            return type(levels);
        }
        if (oneIn(8) && levels > 1 && old.kind != 'U') {
            return around(old);
        }
        Model.Type type = new Model.Type(old.kind == 'I' && oneIn(3) ? 'L' : old.kind);
        type.symbols = oneIn(3) ? symbols() : old.symbols;
        type.symbolDefault = old.kind == 'E' && oneIn(2) ? (Character) type.symbols.charAt(0) : null;
        if (old.kind == 'R') {
            nearFields(old, type, levels);
            return type;
        }
        for (Model.Type part : old.parts) {
            type.parts.add(old.kind == 'U' ? nearBranch(part, levels - 1) : near(part, levels - 1));
        }
        if (old.kind == 'U' && oneIn(2)) {
            Collections.shuffle(type.parts, random);
        }
        return type;
    }

    private Model.Type nearBranch(Model.Type old, int levels) {
        Model.Type branch = near(old, levels);
        return branch.kind == old.kind ? branch : old;
    }

    private Model.Type around(Model.Type old) {
        Model.Type union = new Model.Type('U');
        union.parts.add(old);
        union.parts.add(new Model.Type(old.kind == 'N' ? 'S' : 'N'));
        if (oneIn(2)) {
            Collections.reverse(union.parts);
        }
        return union;
    }

    private void nearFields(Model.Type old, Model.Type type, int levels) {
        List<Integer> order = new ArrayList<>();
        for (int i = 0; i < old.parts.size(); i++) {
            order.add(i);
        }
        if (oneIn(2)) {
            Collections.shuffle(order, random);
        }
        for (int i : order) {
            if (!oneIn(5) || type.names.isEmpty() && i == order.get(order.size() - 1)) {
                addField(type, old.names.get(i), near(old.parts.get(i), levels - 1));
            }
        }
        char added = (char) ('h' + below(3));
        if (type.names.isEmpty() || oneIn(3) && type.names.size() < 6 && !type.names.contains(added)) {
            addField(type, added, type(Math.max(0, Math.min(2, levels - 1))));
        }
    }

    static String text(Model.Type type) {
        StringBuilder text = new StringBuilder().append(type.kind);
        if (type.kind == 'E') {
            text.append('(').append(type.symbols).append(type.symbolDefault == null ? "" : "=" + type.symbolDefault).append(')');
        } else if (type.kind == 'A') {
            text.append(text(type.parts.get(0)));
        } else if (type.kind == 'U' || type.kind == 'R') {
            for (int i = 0; i < type.parts.size(); i++) {
                text.append(i == 0 ? '(' : ',');
                Object literal = type.kind == 'R' ? type.defaults.get(i) : null;
                text.append(type.kind == 'R' ? type.names.get(i) + ":" : "").append(text(type.parts.get(i)));
                text.append(literal == null ? "" : "=" + literalText(type.parts.get(i), literal));
            }
            text.append(')');
        }
        return text.toString();
    }

    private static String literalText(Model.Type type, Object value) {
        if (value instanceof Model.Chosen) {
            return literalText(type.parts.get(0), ((Model.Chosen) value).value);
        }
        if (!(value instanceof List)) {
            return value.toString();
        }
        List<String> all = new ArrayList<>();
        List<?> list = (List<?>) value;
        for (int i = 0; i < list.size(); i++) {
            all.add(literalText(type.parts.get(type.kind == 'A' ? 0 : i), list.get(i)));
        }
        return (type.kind == 'A' ? "[" : "{") + String.join(",", all) + (type.kind == 'A' ? "]" : "}");
    }

    private Object literal(Model.Type type) {
        return value(type, true, 3);
    }

    Object value(Model.Type type) {
        return value(type, false, oneIn(10) ? 20 : 3);
    }

    private Object value(Model.Type type, boolean literal, int most) {
        switch (type.kind) {
            case 'N':
                return "N";
            case 'B':
                return oneIn(2) ? "T" : "F";
            case 'I':
                return number(31);
            case 'L':
                return number(63);
            case 'S':
                return string();
            case 'E':
                return "" + type.symbols.charAt(below(type.symbols.length()));
            case 'U':
                int branch = literal ? 0 : below(type.parts.size());
                return new Model.Chosen(branch, value(type.parts.get(branch), literal, most));
            case 'A':
                List<Object> elements = new ArrayList<>();
                int count = below(most + 1);
                for (int i = 0; i < count; i++) {
                    elements.add(value(type.parts.get(0), literal, most));
                }
                return elements;
            default:
                List<Object> fields = new ArrayList<>();
                for (Model.Type part : type.parts) {
                    fields.add(value(part, literal, most));
                }
                return fields;
        }
    }

    private BigInteger number(int bits) {
        BigInteger most = BigInteger.ONE.shiftLeft(bits);
        if (oneIn(6)) {
            return oneIn(2) ? most.subtract(BigInteger.ONE) : most.negate();
        }
        BigInteger number = new BigInteger(below(bits + 1), random);
        return oneIn(2) ? number : number.negate();
    }

    private String string() {
        StringBuilder string = new StringBuilder("\"");
        int length = oneIn(4) ? 12 : below(4);
        for (int i = 0; i < length; i++) {
            char c = (char) (32 + below(95));
            string.append(c == '"' ? '=' : c);
        }
        return string.append('"').toString();
    }

    /** The bytes of a value, the elements of an A in parts. */
    List<Integer> stream(Model.Type type, Object value) {
        if (type.kind == 'U') {
            Model.Chosen chosen = (Model.Chosen) value;
            List<Integer> bytes = new ArrayList<>(List.of(2 * chosen.branch));
            bytes.addAll(stream(type.parts.get(chosen.branch), chosen.value));
            return bytes;
        }
        if (type.kind != 'A' && type.kind != 'R') {
            return Model.bytes(type, value);
        }
        List<Integer> bytes = new ArrayList<>();
        List<?> list = (List<?>) value;
        int left = 0;
        for (int i = 0; i < list.size(); i++) {
            if (type.kind == 'A' && left == 0) {
                left = oneIn(2) ? list.size() - i : 1 + below(list.size() - i);
                bytes.add(2 * left);
            }
            left--;
            bytes.addAll(stream(type.parts.get(type.kind == 'A' ? 0 : i), list.get(i)));
        }
        if (type.kind == 'A') {
            bytes.add(0);
        }
        return bytes;
    }

    String spoilt(String text) {
        StringBuilder spoilt = new StringBuilder(text);
        int at = below(text.length() + 1);
        char mark = MARKS.charAt(below(MARKS.length()));
        int way = below(4);
        if (way == 0) {
            spoilt.setLength(at);
        } else if (way == 1 || at == text.length()) {
            spoilt.insert(at, mark);
        } else if (way == 2) {
            spoilt.deleteCharAt(at);
        } else {
            spoilt.setCharAt(at, mark);
        }
        return spoilt.toString();
    }

    List<Integer> spoilt(List<Integer> bytes) {
        List<Integer> spoilt = new ArrayList<>(bytes);
        int at = below(bytes.size() + 1);
        int odd = oneIn(2) ? below(256) : new int[] {0, 1, 2, 127, 128, 255, 34, 40, 42, 24, 26}[below(11)];
        int way = below(4);
        if (way == 0) {
            return new ArrayList<>(spoilt.subList(0, at));
        } else if (way == 1 || at == bytes.size()) {
            spoilt.add(at, odd);
        } else if (way == 2) {
            spoilt.remove(at);
        } else {
            spoilt.set(at, odd);
        }
        return spoilt;
    }
}
