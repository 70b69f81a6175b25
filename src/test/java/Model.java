import java.math.BigInteger;
import java.util.ArrayList;
import java.util.Arrays;
import java.util.List;

/**
 * What the document says, said once more and as near to its words as can be, with no thought of speed: trees for types
 * and values, READS by trying values, and the place by following every way on in which a text could be read.
 */
final class Model {
    static final class Type {
        char kind;
        String symbols = "";
        Character symbolDefault;
        List<Type> parts = new ArrayList<>();
        List<Character> names = new ArrayList<>();
        List<Object> defaults = new ArrayList<>();

        Type(char kind) {
            this.kind = kind;
        }
    }

    /** A value of a U; other values are a String (N, B, S, E), a BigInteger or a List. */
    static final class Chosen {
        final int branch;
        final Object value;

        Chosen(int branch, Object value) {
            this.branch = branch;
            this.value = value;
        }
    }

    /** Goes on behind what was read. */
    interface Next<T> {
        boolean go(int at, T read);
    }

    static final class Fault extends RuntimeException {
        private static final long serialVersionUID = 1L;
        final int place;

        Fault(int place) {
            super("place " + place);
            this.place = place;
        }
    }

    static final class CantBe extends RuntimeException {
        private static final long serialVersionUID = 1L;
    }

    private final String text;
    private int furthest;

    private Model(String text) {
        this.text = text;
    }

    static Type schema(String text) {
        Model model = new Model(text);
        Type[] found = new Type[1];
        boolean whole = model.type(0, 6, (at, type) -> {
            found[0] = type;
            return at == text.length();
        });
        if (!whole) {
            throw new Fault(model.furthest);
        }
        return found[0];
    }

    static Object value(Type type, String text) {
        Model model = new Model(text);
        Object[] found = new Object[1];
        boolean whole = model.value(type, 0, false, (at, value) -> {
            found[0] = value;
            return at == text.length();
        });
        if (!whole) {
            throw new Fault(model.furthest);
        }
        return found[0];
    }

    private boolean character(int at, char c, Next<Character> next) {
        if (at >= text.length() || text.charAt(at) != c) {
            return false;
        }
        furthest = Math.max(furthest, at + 1);
        return next.go(at + 1, c);
    }

    private boolean oneOf(int at, String set, Next<Character> next) {
        for (char c : set.toCharArray()) {
            if (character(at, c, next)) {
                return true;
            }
        }
        return false;
    }

    private boolean type(int at, int levels, Next<Type> next) {
        if (oneOf(at, "NBILS", (a, c) -> next.go(a, new Type(c)))) {
            return true;
        }
        if (character(at, 'E', (a, c) -> character(a, '(', (b, d) -> symbols(b, "", next)))) {
            return true;
        }
        if (levels == 0) {
            return false;
        }
        return character(at, 'A', (a, c) -> type(a, levels - 1, (b, element) -> {
            Type type = new Type('A');
            type.parts.add(element);
            return next.go(b, type);
        })) || character(at, 'U', (a, c) -> character(a, '(', (b, d) -> branches(b, new ArrayList<>(), levels - 1, next)))
            || character(at, 'R', (a, c) -> character(a, '(', (b, d) -> fields(b, new Type('R'), levels - 1, next)));
    }

    private boolean symbols(int at, String before, Next<Type> next) {
        String left = "";
        for (char c = 'a'; c <= 'z'; c++) {
            left += before.indexOf(c) < 0 ? "" + c : "";
        }
        if (before.length() < 8 && oneOf(at, left, (a, c) -> symbols(a, before + c, next))) {
            return true;
        }
        if (before.isEmpty()) {
            return false;
        }
        Type type = new Type('E');
        type.symbols = before;
        return character(at, ')', (a, c) -> next.go(a, type))
            || character(at, '=', (a, c) -> oneOf(a, before, (b, symbol) -> character(b, ')', (d, e) -> {
                type.symbolDefault = symbol;
                return next.go(d, type);
            })));
    }

    private boolean branches(int at, List<Type> before, int levels, Next<Type> next) {
        if (at < text.length() && (text.charAt(at) == 'U' || before.stream().anyMatch(t -> t.kind == text.charAt(at)))) {
            return false;
        }
        return type(at, levels, (a, branch) -> {
            List<Type> all = new ArrayList<>(before);
            all.add(branch);
            Type type = new Type('U');
            type.parts = all;
            return all.size() >= 2 && character(a, ')', (b, c) -> next.go(b, type))
                || all.size() < 4 && character(a, ',', (b, c) -> branches(b, all, levels, next));
        });
    }

    private boolean fields(int at, Type before, int levels, Next<Type> next) {
        String left = "";
        for (char c = 'a'; c <= 'z'; c++) {
            left += before.names.contains(c) ? "" : "" + c;
        }
        return oneOf(at, left, (a, name) -> character(a, ':', (b, c) -> type(b, levels, (d, part) ->
            fieldEnd(d, with(before, name, part, null), levels, next)
                || character(d, '=', (e, f) -> value(part, e, true, (g, literal) ->
                    fieldEnd(g, with(before, name, part, literal), levels, next))))));
    }

    private boolean fieldEnd(int at, Type record, int levels, Next<Type> next) {
        return character(at, ')', (a, c) -> next.go(a, record))
            || record.names.size() < 6 && character(at, ',', (a, c) -> fields(a, record, levels, next));
    }

    private static Type with(Type before, char name, Type part, Object literal) {
        Type type = new Type('R');
        type.names.addAll(before.names);
        type.parts.addAll(before.parts);
        type.defaults.addAll(before.defaults);
        type.names.add(name);
        type.parts.add(part);
        type.defaults.add(literal);
        return type;
    }

    private boolean value(Type type, int at, boolean literal, Next<Object> next) {
        switch (type.kind) {
            case 'N':
                return character(at, 'N', (a, c) -> next.go(a, "N"));
            case 'B':
                return oneOf(at, "TF", (a, c) -> next.go(a, "" + c));
            case 'I':
                return number(at, 31, next);
            case 'L':
                return number(at, 63, next);
            case 'S':
                return character(at, '"', (a, c) -> string(a, "", next));
            case 'E':
                return oneOf(at, type.symbols, (a, c) -> next.go(a, "" + c));
            case 'A':
                return character(at, '[', (a, c) -> character(a, ']', (b, d) -> next.go(b, new ArrayList<>()))
                    || elements(type, a, new ArrayList<>(), literal, next));
            case 'R':
                return character(at, '{', (a, c) -> parts(type, a, new ArrayList<>(), literal, next));
            default:
                return literal
                    ? value(type.parts.get(0), at, true, (a, v) -> next.go(a, new Chosen(0, v)))
                    : branch(type, at, next);
        }
    }

    private boolean branch(Type type, int at, Next<Object> next) {
        for (int i = 0; i < type.parts.size(); i++) {
            int number = i;
            Type part = type.parts.get(i);
            if (character(at, (char) ('0' + i), (a, c) -> character(a, ':', (b, d) -> value(part, b, false, (e, v) ->
                    next.go(e, new Chosen(number, v)))))) {
                return true;
            }
        }
        return false;
    }

    private boolean number(int at, int bits, Next<Object> next) {
        BigInteger most = BigInteger.ONE.shiftLeft(bits);
        boolean whole = false;
        for (int end = at + 1; end <= text.length() && end <= at + 25; end++) {
            String begun = text.substring(at, end);
            if (begun.equals("-")) {
                furthest = Math.max(furthest, end);
            } else if (begun.matches("0|-?[1-9][0-9]*")) {
                BigInteger number = new BigInteger(begun);
                if (number.compareTo(most) < 0 && number.compareTo(most.negate()) >= 0) {
                    furthest = Math.max(furthest, end);
                    whole = whole || next.go(end, number);
                }
            }
        }
        return whole;
    }

    private boolean string(int at, String before, Next<Object> next) {
        if (character(at, '"', (a, c) -> next.go(a, "\"" + before + "\""))) {
            return true;
        }
        return before.length() < 12 && at < text.length() && text.charAt(at) != '"'
            && character(at, text.charAt(at), (a, c) -> string(a, before + c, next));
    }

    private boolean elements(Type type, int at, List<Object> before, boolean literal, Next<Object> next) {
        return value(type.parts.get(0), at, literal, (a, v) -> {
            List<Object> all = new ArrayList<>(before);
            all.add(v);
            return character(a, ']', (b, c) -> next.go(b, all))
                || all.size() < (literal ? 3 : 20) && character(a, ',', (b, c) -> elements(type, b, all, literal, next));
        });
    }

    private boolean parts(Type type, int at, List<Object> before, boolean literal, Next<Object> next) {
        return value(type.parts.get(before.size()), at, literal, (a, v) -> {
            List<Object> all = new ArrayList<>(before);
            all.add(v);
            return all.size() == type.parts.size()
                ? character(a, '}', (b, c) -> next.go(b, all))
                : character(a, ',', (b, c) -> parts(type, b, all, literal, next));
        });
    }

    static String written(Type type, Object value) {
        if (value instanceof Chosen) {
            Chosen chosen = (Chosen) value;
            return chosen.branch + ":" + written(type.parts.get(chosen.branch), chosen.value);
        }
        if (!(value instanceof List)) {
            return value.toString();
        }
        List<String> all = new ArrayList<>();
        List<?> list = (List<?>) value;
        for (int i = 0; i < list.size(); i++) {
            all.add(written(type.parts.get(type.kind == 'A' ? 0 : i), list.get(i)));
        }
        return (type.kind == 'A' ? "[" : "{") + String.join(",", all) + (type.kind == 'A' ? "]" : "}");
    }

    static String bare(Type type) {
        List<String> all = new ArrayList<>();
        for (int i = 0; i < type.parts.size(); i++) {
            all.add((type.kind == 'R' ? type.names.get(i) + ":" : "") + bare(type.parts.get(i)));
        }
        switch (type.kind) {
            case 'E':
                return "E(" + type.symbols + ")";
            case 'A':
                return "A" + all.get(0);
            case 'U':
            case 'R':
                return type.kind + "(" + String.join(",", all) + ")";
            default:
                return "" + type.kind;
        }
    }

    static List<Integer> bytes(Type type, Object value) {
        List<Integer> bytes = new ArrayList<>();
        switch (type.kind) {
            case 'N':
                break;
            case 'B':
                bytes.add(value.equals("T") ? 1 : 0);
                break;
            case 'I':
            case 'L':
                bytes.addAll(numberBytes((BigInteger) value));
                break;
            case 'S':
                String string = (String) value;
                bytes.addAll(twice(string.length() - 2));
                for (int i = 1; i < string.length() - 1; i++) {
                    bytes.add((int) string.charAt(i));
                }
                break;
            case 'E':
                bytes.addAll(twice(type.symbols.indexOf((String) value)));
                break;
            case 'U':
                Chosen chosen = (Chosen) value;
                bytes.addAll(twice(chosen.branch));
                bytes.addAll(bytes(type.parts.get(chosen.branch), chosen.value));
                break;
            default:
                listBytes(type, (List<?>) value, bytes);
                break;
        }
        return bytes;
    }

    private static void listBytes(Type type, List<?> list, List<Integer> bytes) {
        if (type.kind == 'A' && !list.isEmpty()) {
            bytes.addAll(twice(list.size()));
        }
        for (int i = 0; i < list.size(); i++) {
            bytes.addAll(bytes(type.parts.get(type.kind == 'A' ? 0 : i), list.get(i)));
        }
        if (type.kind == 'A') {
            bytes.add(0);
        }
    }

    private static List<Integer> twice(int number) {
        return numberBytes(BigInteger.valueOf(number));
    }

    static List<Integer> numberBytes(BigInteger v) {
        BigInteger two = BigInteger.valueOf(2);
        BigInteger z = v.signum() >= 0 ? v.multiply(two) : v.multiply(two).negate().subtract(BigInteger.ONE);
        List<Integer> bytes = new ArrayList<>();
        while (z.bitLength() > 7) {
            bytes.add(z.intValue() & 127 | 128);
            z = z.shiftRight(7);
        }
        bytes.add(z.intValue());
        return bytes;
    }

    /** Reads streams byte by byte. */
    static final class Stream {
        private final List<Integer> bytes;
        private int at;

        Stream(List<Integer> bytes) {
            this.bytes = bytes;
        }

        Object whole(Type type) {
            Object value = read(type);
            if (at < bytes.size()) {
                throw new Fault(at);
            }
            return value;
        }

        private Object read(Type type) {
            switch (type.kind) {
                case 'N':
                    return "N";
                case 'B':
                    return next(0, 1) == 1 ? "T" : "F";
                case 'I':
                    return number(32);
                case 'L':
                    return number(64);
                case 'S':
                    return string();
                case 'E':
                    return "" + type.symbols.charAt(count(type.symbols.length() - 1));
                case 'U':
                    int branch = count(type.parts.size() - 1);
                    return new Chosen(branch, read(type.parts.get(branch)));
                case 'R':
                    List<Object> fields = new ArrayList<>();
                    for (Type part : type.parts) {
                        fields.add(read(part));
                    }
                    return fields;
                default:
                    return elements(type.parts.get(0));
            }
        }

        private int next(int least, int most) {
            if (at >= bytes.size() || bytes.get(at) < least || bytes.get(at) > most) {
                throw new Fault(at);
            }
            return bytes.get(at++);
        }

        private int count(int most) {
            if (at < bytes.size() && bytes.get(at) % 2 == 1) {
                throw new Fault(at);
            }
            return next(0, 2 * most) / 2;
        }

        private String string() {
            StringBuilder string = new StringBuilder("\"");
            int length = count(12);
            for (int i = 0; i < length; i++) {
                if (at < bytes.size() && bytes.get(at) == 34) {
                    throw new Fault(at);
                }
                string.append((char) next(32, 126));
            }
            return string.append('"').toString();
        }

        private List<Object> elements(Type element) {
            List<Object> all = new ArrayList<>();
            while (true) {
                int count = count(20 - all.size());
                if (count == 0) {
                    return all;
                }
                for (int i = 0; i < count; i++) {
                    all.add(read(element));
                }
            }
        }

        /** So far as bytes with 128 more go: they can go on if one more byte of 1 makes a number that fits. */
        private BigInteger number(int bits) {
            BigInteger limit = BigInteger.ONE.shiftLeft(bits);
            BigInteger low = BigInteger.ZERO;
            for (int k = 0;; k++) {
                if (at >= bytes.size()) {
                    throw new Fault(at);
                }
                int b = bytes.get(at);
                BigInteger z = low.add(BigInteger.valueOf(b & 127).shiftLeft(7 * k));
                BigInteger fewest = b < 128 ? z : z.add(BigInteger.ONE.shiftLeft(7 * (k + 1)));
                if (fewest.compareTo(limit) >= 0 || b == 0 && k > 0) {
                    throw new Fault(at);
                }
                at++;
                low = z;
                if (b < 128) {
                    BigInteger half = z.shiftRight(1);
                    return z.testBit(0) ? half.negate().subtract(BigInteger.ONE) : half;
                }
            }
        }
    }

    static Object resolved(Type w, Object value, Type r) {
        if (w.kind == 'U') {
            Chosen chosen = (Chosen) value;
            return resolved(w.parts.get(chosen.branch), chosen.value, r);
        }
        if (r.kind == 'U') {
            for (int i = 0; i < r.parts.size(); i++) {
                if (reads(r.parts.get(i), w)) {
                    return new Chosen(i, resolved(w, value, r.parts.get(i)));
                }
            }
            throw new CantBe();
        }
        if (w.kind == r.kind && "NBILS".indexOf(w.kind) >= 0 || w.kind == 'I' && r.kind == 'L') {
            return value;
        }
        if (w.kind != r.kind) {
            throw new CantBe();
        }
        if (w.kind == 'E') {
            return resolvedSymbol((String) value, r);
        }
        return w.kind == 'A' ? resolvedElements(w, (List<?>) value, r) : resolvedFields(w, (List<?>) value, r);
    }

    private static Object resolvedSymbol(String symbol, Type r) {
        if (r.symbols.contains(symbol)) {
            return symbol;
        }
        if (r.symbolDefault == null) {
            throw new CantBe();
        }
        return r.symbolDefault.toString();
    }

    private static Object resolvedElements(Type w, List<?> value, Type r) {
        List<Object> all = new ArrayList<>();
        for (Object element : value) {
            all.add(resolved(w.parts.get(0), element, r.parts.get(0)));
        }
        return all;
    }

    private static Object resolvedFields(Type w, List<?> value, Type r) {
        List<Object> all = new ArrayList<>();
        for (int i = 0; i < r.parts.size(); i++) {
            int source = w.names.indexOf(r.names.get(i));
            if (source >= 0) {
                all.add(resolved(w.parts.get(source), value.get(source), r.parts.get(i)));
            } else if (r.defaults.get(i) != null) {
                all.add(r.defaults.get(i));
            } else {
                throw new CantBe();
            }
        }
        return all;
    }

    static boolean reads(Type r, Type w) {
        for (Object value : samples(w)) {
            try {
                resolved(w, value, r);
            } catch (CantBe e) {
                return false;
            }
        }
        return true;
    }

    /** Values among which every symbol and every branch is met, wherever it stands. */
    private static List<Object> samples(Type w) {
        List<Object> all = new ArrayList<>();
        switch (w.kind) {
            case 'I':
            case 'L':
                all.add(BigInteger.ONE);
                break;
            case 'E':
                all.addAll(Arrays.asList((Object[]) w.symbols.split("")));
                break;
            case 'A':
                for (Object element : samples(w.parts.get(0))) {
                    all.add(List.of(element));
                }
                break;
            case 'U':
                for (int i = 0; i < w.parts.size(); i++) {
                    for (Object value : samples(w.parts.get(i))) {
                        all.add(new Chosen(i, value));
                    }
                }
                break;
            case 'R':
                recordSamples(w, all);
                break;
            default:
                all.add("N");
                break;
        }
        return all;
    }

    private static void recordSamples(Type w, List<Object> all) {
        List<Object> first = new ArrayList<>();
        for (Type part : w.parts) {
            first.add(samples(part).get(0));
        }
        for (int i = 0; i < w.parts.size(); i++) {
            for (Object value : samples(w.parts.get(i))) {
                List<Object> fields = new ArrayList<>(first);
                fields.set(i, value);
                all.add(fields);
            }
        }
    }
}
