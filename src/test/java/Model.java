import java.math.BigInteger;
import java.util.ArrayDeque;
import java.util.ArrayList;
import java.util.Comparator;
import java.util.Deque;
import java.util.List;
import java.util.Map;
import java.util.TreeMap;

/**
 * The document once more, written as slowly and as literally as it goes and without a thought from
 * the program, so that the two can be held against each other.
 */
final class Model {
    static final int NO_SUCH = -1;
    static final int BAD_VALUE = -2;
    static final int BAD_TEXT = -3;
    static final int TOO_MANY = -4;
    static final int NOT_POSSIBLE = -5;
    static final int NONE = -6;

    private static final Comparator<List<Integer>> ASCENDING = (x, y) -> {
        for (int i = 0; i < x.size(); i++) {
            if (!x.get(i).equals(y.get(i))) {
                return x.get(i) - y.get(i);
            }
        }
        return 0;
    };

    /** Exponents of the tags 0 to 15 to coefficient, in the order of the terms. */
    private static final class Poly extends TreeMap<List<Integer>, BigInteger> {
        private static final long serialVersionUID = 1;

        Poly() {
            super(ASCENDING.reversed());
        }

        void plus(List<Integer> monomial, BigInteger coefficient) {
            merge(monomial, coefficient, BigInteger::add);
        }

        void plus(Poly other) {
            other.forEach(this::plus);
        }
    }

    private static final class Rel {
        final TreeMap<List<Integer>, Poly> rows = new TreeMap<>(ASCENDING);
        int width;

        void add(List<Integer> values, Poly poly) {
            rows.computeIfAbsent(values, v -> new Poly()).plus(poly);
        }
    }

    private static final class Stop extends RuntimeException {
        private static final long serialVersionUID = 1;
        final int at;

        Stop(int at) {
            super(null, null, false, false);
            this.at = at;
        }
    }

    private static final class Node {
        char kind;
        List<Integer> numbers = new ArrayList<>();
        List<Node> parts = new ArrayList<>();
    }

    private static final class Row {
        int table;
        List<Integer> values;
        int cost = 1;
        int trust = 100;
        boolean isWithdrawn;

        Row copy() {
            Row row = new Row();
            row.table = table;
            row.values = values;
            row.cost = cost;
            row.trust = trust;
            row.isWithdrawn = isWithdrawn;
            return row;
        }
    }

    private static final class State {
        int[] columns = {2, 2, 2, 2};
        TreeMap<Integer, Row> rows = new TreeMap<>();
        String query = "";

        State copy() {
            State state = new State();
            state.columns = columns.clone();
            rows.forEach((tag, row) -> state.rows.put(tag, row.copy()));
            state.query = query;
            return state;
        }
    }

    private State state = new State();
    private final Deque<State> history = new ArrayDeque<>();
    private String text = "";
    private String paper = "";
    private Rel answer = new Rel();

    // ---- parsing

    private String source;
    private int at;

    private Node parse(String line) {
        source = line;
        at = 0;
        Node node = parseQuery();
        if (at < line.length()) {
            throw new Stop(at);
        }
        return node;
    }

    private char take(String allowed) {
        if (at >= source.length() || allowed.indexOf(source.charAt(at)) < 0) {
            throw new Stop(at);
        }
        return source.charAt(at++);
    }

    private Node parseQuery() {
        Node node = new Node();
        node.kind = take("ABCDspju");
        int parts = 1;
        switch (node.kind) {
            case 's' -> {
                node.numbers.add(take("0123") - '0');
                node.kind = take("=~");
                node.numbers.add(take(node.kind == '=' ? "0123456789" : "0123") - '0');
                take("(");
            }
            case 'p' -> {
                node.numbers.add(take("0123") - '0');
                char next = take("0123(");
                while (next != '(') {
                    node.numbers.add(next - '0');
                    next = take(node.numbers.size() == 4 ? "(" : "0123(");
                }
            }
            case 'j' -> {
                node.numbers.add(take("0123") - '0');
                node.numbers.add(take("0123") - '0');
                take("(");
                parts = 2;
            }
            case 'u' -> {
                take("(");
                parts = 2;
            }
            default -> parts = 0;
        }
        for (int i = 0; i < parts; i++) {
            if (i > 0) {
                take(",");
            }
            node.parts.add(parseQuery());
        }
        if (parts > 0) {
            take(")");
        }
        return node;
    }

    /** -1 if it does not fit. */
    private int width(Node node) {
        List<Integer> widths = new ArrayList<>();
        for (Node part : node.parts) {
            int width = width(part);
            if (width < 0) {
                return -1;
            }
            widths.add(width);
        }
        List<Integer> n = node.numbers;
        switch (node.kind) {
            case '=':
                return n.get(0) < widths.get(0) ? widths.get(0) : -1;
            case '~':
                return n.get(0) < widths.get(0) && n.get(1) < widths.get(0) ? widths.get(0) : -1;
            case 'p':
                return n.stream().allMatch(c -> c < widths.get(0)) ? n.size() : -1;
            case 'j':
                int sum = widths.get(0) + widths.get(1);
                return n.get(0) < widths.get(0) && n.get(1) < widths.get(1) && sum <= 4 ? sum : -1;
            case 'u':
                return widths.get(0).equals(widths.get(1)) ? widths.get(0) : -1;
            default:
                return state.columns[node.kind - 'A'];
        }
    }

    // ---- relations

    private static Poly times(Poly x, Poly y) {
        Poly product = new Poly();
        x.forEach((m, c) -> y.forEach((n, d) -> {
            List<Integer> monomial = new ArrayList<>();
            for (int i = 0; i < 16; i++) {
                monomial.add(m.get(i) + n.get(i));
            }
            product.plus(monomial, c.multiply(d));
        }));
        return product;
    }

    /** Throws Stop if the query is too large. */
    private static Rel relation(Node node, State state) {
        Rel rel = new Rel();
        List<Rel> parts = new ArrayList<>();
        for (Node part : node.parts) {
            parts.add(relation(part, state));
        }
        List<Integer> n = node.numbers;
        switch (node.kind) {
            case '=':
            case '~':
                rel.width = parts.get(0).width;
                parts.get(0).rows.forEach((values, poly) -> {
                    int wanted = node.kind == '=' ? n.get(1) : values.get(n.get(1));
                    if (values.get(n.get(0)) == wanted) {
                        rel.add(values, poly);
                    }
                });
                break;
            case 'p':
                rel.width = n.size();
                parts.get(0).rows.forEach((values, poly) -> {
                    List<Integer> named = new ArrayList<>();
                    n.forEach(c -> named.add(values.get(c)));
                    rel.add(named, poly);
                });
                break;
            case 'j':
                rel.width = parts.get(0).width + parts.get(1).width;
                parts.get(0).rows.forEach((v, p) -> parts.get(1).rows.forEach((w, q) -> {
                    if (v.get(n.get(0)).equals(w.get(n.get(1)))) {
                        List<Integer> both = new ArrayList<>(v);
                        both.addAll(w);
                        rel.add(both, times(p, q));
                    }
                }));
                break;
            case 'u':
                rel.width = parts.get(0).width;
                parts.forEach(part -> part.rows.forEach(rel::add));
                break;
            default:
                rel.width = state.columns[node.kind - 'A'];
                state.rows.forEach((tag, row) -> {
                    if (row.table == node.kind - 'A') {
                        Poly single = new Poly();
                        List<Integer> monomial = new ArrayList<>();
                        for (int i = 0; i < 16; i++) {
                            monomial.add(i == tag ? 1 : 0);
                        }
                        single.plus(monomial, BigInteger.ONE);
                        rel.add(row.values, single);
                    }
                });
        }
        if (rel.rows.size() > 32 || rel.rows.values().stream().anyMatch(p -> p.size() > 32)) {
            throw new Stop(0);
        }
        return rel;
    }

    private Rel answerOf(State given) {
        return given.query.isEmpty() ? new Rel() : relation(parse(given.query), given);
    }

    private Poly poly(int row) {
        return row < 0 || row >= answer.rows.size() ? null : new ArrayList<>(answer.rows.values()).get(row);
    }

    private static Poly form(Poly poly, int form) {
        Poly result = new Poly();
        poly.forEach((m, c) -> {
            List<Integer> monomial = new ArrayList<>();
            m.forEach(e -> monomial.add(form < 2 ? e : Math.min(e, 1)));
            result.plus(monomial, c);
        });
        if (form == 1 || form > 2) {
            result.replaceAll((m, c) -> BigInteger.ONE);
        }
        if (form == 4) {
            Poly all = form(poly, 3);
            result.keySet().removeIf(m -> all.keySet().stream().anyMatch(
                    o -> !o.equals(m) && (mask(m) & mask(o)) == mask(o)));
        }
        return result;
    }

    private static int mask(List<Integer> monomial) {
        int mask = 0;
        for (int i = 0; i < 16; i++) {
            mask |= monomial.get(i) > 0 ? 1 << i : 0;
        }
        return mask;
    }

    private static boolean isPresent(Poly poly, int withdrawn) {
        return poly.keySet().stream().anyMatch(m -> (mask(m) & withdrawn) == 0);
    }

    private Poly available(Poly poly) {
        Poly result = new Poly();
        poly.forEach((m, c) -> {
            if ((mask(m) & withdrawn()) == 0) {
                result.put(m, c);
            }
        });
        return result;
    }

    private int count(int withdrawn) {
        return (int) answer.rows.values().stream().filter(p -> isPresent(p, withdrawn)).count();
    }

    private void record() {
        history.addLast(state.copy());
        if (history.size() > 4) {
            history.removeFirst();
        }
    }

    // ---- the face

    int setColumns(int table, int columns) {
        if (table < 0 || table > 3) {
            return NO_SUCH;
        }
        if (columns < 1 || columns > 3) {
            return BAD_VALUE;
        }
        boolean isUsed = state.rows.values().stream().anyMatch(r -> r.table == table);
        if (isUsed || state.query.indexOf('A' + table) >= 0) {
            return NOT_POSSIBLE;
        }
        record();
        int before = state.columns[table];
        state.columns[table] = columns;
        return before;
    }

    int addRow(int table, int values) {
        if (table < 0 || table > 3) {
            return NO_SUCH;
        }
        String digits = String.valueOf(values);
        int width = state.columns[table];
        if (values < 0 || digits.length() > width) {
            return BAD_VALUE;
        }
        if (state.rows.size() == 16) {
            return TOO_MANY;
        }
        digits = "000".substring(0, width - digits.length()) + digits;
        State next = state.copy();
        Row row = new Row();
        row.table = table;
        row.values = new ArrayList<>();
        for (char digit : digits.toCharArray()) {
            row.values.add(digit - '0');
        }
        int tag = 0;
        while (state.rows.containsKey(tag)) {
            tag++;
        }
        next.rows.put(tag, row);
        try {
            answer = answerOf(next);
        } catch (Stop tooLarge) {
            return TOO_MANY;
        }
        record();
        state = next;
        return tag;
    }

    int dropRow(int tag) {
        if (!state.rows.containsKey(tag)) {
            return NO_SUCH;
        }
        record();
        state.rows.remove(tag);
        answer = answerOf(state);
        return state.rows.size();
    }

    int setCost(int tag, int cost) {
        Row row = state.rows.get(tag);
        if (row == null) {
            return NO_SUCH;
        }
        if (cost < 0 || cost > 999) {
            return BAD_VALUE;
        }
        record();
        int before = row.cost;
        row.cost = cost;
        return before;
    }

    int setTrust(int tag, int trust) {
        Row row = state.rows.get(tag);
        if (row == null) {
            return NO_SUCH;
        }
        if (trust < 0 || trust > 100) {
            return BAD_VALUE;
        }
        record();
        int before = row.trust;
        row.trust = trust;
        return before;
    }

    int setWithdrawn(int tag, boolean isWithdrawn) {
        Row row = state.rows.get(tag);
        if (row == null) {
            return NO_SUCH;
        }
        record();
        row.isWithdrawn = isWithdrawn;
        return count(withdrawn());
    }

    int setQuery() {
        Node node;
        try {
            node = parse(text);
        } catch (Stop fault) {
            return BAD_TEXT;
        }
        if (width(node) < 0) {
            return NOT_POSSIBLE;
        }
        try {
            answer = relation(node, state);
        } catch (Stop tooLarge) {
            return TOO_MANY;
        }
        record();
        state.query = text;
        return answer.rows.size();
    }

    int dropQuery() {
        if (state.query.isEmpty()) {
            return NOT_POSSIBLE;
        }
        record();
        int before = answer.rows.size();
        state.query = "";
        answer = new Rel();
        return before;
    }

    int append(int character) {
        if (character < 32 || character > 126) {
            return BAD_VALUE;
        }
        if (text.length() >= 60) {
            return TOO_MANY;
        }
        text += (char) character;
        return text.length();
    }

    int clearText() {
        int before = text.length();
        text = "";
        return before;
    }

    int fault() {
        try {
            parse(text);
            return NONE;
        } catch (Stop stop) {
            return stop.at;
        }
    }

    int undo() {
        if (history.isEmpty()) {
            return NONE;
        }
        state = history.removeLast();
        answer = answerOf(state);
        return history.size();
    }

    int columns(int table) {
        return table < 0 || table > 3 ? NO_SUCH : state.columns[table];
    }

    int tags() {
        return state.rows.keySet().stream().mapToInt(t -> 1 << t).sum();
    }

    int withdrawn() {
        return state.rows.entrySet().stream().filter(e -> e.getValue().isWithdrawn)
                .mapToInt(e -> 1 << e.getKey()).sum();
    }

    int tableOf(int tag) {
        return state.rows.containsKey(tag) ? state.rows.get(tag).table : NO_SUCH;
    }

    int value(int tag, int column) {
        Row row = state.rows.get(tag);
        return row == null || column < 0 || column >= row.values.size() ? NO_SUCH : row.values.get(column);
    }

    int cost(int tag) {
        return state.rows.containsKey(tag) ? state.rows.get(tag).cost : NO_SUCH;
    }

    int trust(int tag) {
        return state.rows.containsKey(tag) ? state.rows.get(tag).trust : NO_SUCH;
    }

    int queryLength() {
        return state.query.length();
    }

    int queryAt(int index) {
        return index < 0 || index >= state.query.length() ? NO_SUCH : state.query.charAt(index);
    }

    int answerRows() {
        return answer.rows.size();
    }

    int answerColumns() {
        return answer.width;
    }

    int answerValue(int row, int column) {
        if (poly(row) == null || column < 0 || column >= answer.width) {
            return NO_SUCH;
        }
        return new ArrayList<>(answer.rows.keySet()).get(row).get(column);
    }

    int terms(int row, int form) {
        if (poly(row) == null) {
            return NO_SUCH;
        }
        return form < 0 || form > 4 ? BAD_VALUE : form(poly(row), form).size();
    }

    long coefficient(int row, int form, int term) {
        int terms = terms(row, form);
        if (terms < 0) {
            return terms;
        }
        if (term < 0 || term >= terms) {
            return NO_SUCH;
        }
        return new ArrayList<>(form(poly(row), form).values()).get(term).longValueExact();
    }

    int exponent(int row, int form, int term, int tag) {
        int terms = terms(row, form);
        if (terms < 0) {
            return terms;
        }
        if (tag < 0 || tag > 15) {
            return BAD_VALUE;
        }
        if (term < 0 || term >= terms) {
            return NO_SUCH;
        }
        return new ArrayList<>(form(poly(row), form).keySet()).get(term).get(tag);
    }

    int lineage(int row) {
        return poly(row) == null ? NO_SUCH : lineageOf(poly(row));
    }

    private static int lineageOf(Poly poly) {
        return poly.keySet().stream().mapToInt(Model::mask).reduce(0, (x, y) -> x | y);
    }

    long derivations(int row) {
        if (poly(row) == null) {
            return NO_SUCH;
        }
        return available(poly(row)).values().stream().reduce(BigInteger.ZERO, BigInteger::add).longValueExact();
    }

    private int costOf(List<Integer> monomial) {
        return state.rows.entrySet().stream().mapToInt(e -> e.getValue().cost * monomial.get(e.getKey())).sum();
    }

    int leastCost(int row) {
        if (poly(row) == null) {
            return NO_SUCH;
        }
        return available(poly(row)).keySet().stream().mapToInt(this::costOf).min().orElse(NONE);
    }

    int cheapestTags(int row) {
        if (poly(row) == null) {
            return NO_SUCH;
        }
        for (Map.Entry<List<Integer>, BigInteger> term : available(poly(row)).entrySet()) {
            if (costOf(term.getKey()) == leastCost(row)) {
                return mask(term.getKey());
            }
        }
        return NONE;
    }

    int answerTrust(int row) {
        if (poly(row) == null) {
            return NO_SUCH;
        }
        return available(poly(row)).keySet().stream().mapToInt(m -> state.rows.entrySet().stream()
                .filter(e -> m.get(e.getKey()) > 0).mapToInt(e -> e.getValue().trust).min().orElse(100))
                .max().orElse(NONE);
    }

    float confidence(int row) {
        if (poly(row) == null) {
            return -1.0f;
        }
        float best = 0.0f;
        for (List<Integer> monomial : available(poly(row)).keySet()) {
            float confidence = 1.0f;
            for (Map.Entry<Integer, Row> entry : state.rows.entrySet()) {
                for (int i = 0; i < monomial.get(entry.getKey()); i++) {
                    confidence *= (float) entry.getValue().trust / 100.0f;
                }
            }
            best = Math.max(best, confidence);
        }
        return best;
    }

    int needed(int row) {
        if (poly(row) == null) {
            return NO_SUCH;
        }
        return available(poly(row)).keySet().stream().mapToInt(Model::mask).reduce((x, y) -> x & y).orElse(NONE);
    }

    int smallestCut(int row) {
        if (poly(row) == null) {
            return NO_SUCH;
        }
        Poly left = available(poly(row));
        if (left.isEmpty()) {
            return NONE;
        }
        int[] masks = left.keySet().stream().mapToInt(Model::mask).toArray();
        int best = -1;
        for (int set = 0; set < 1 << 16; set++) {
            if (best >= 0 && Integer.bitCount(set) >= Integer.bitCount(best)) {
                continue;
            }
            boolean cutsAll = true;
            for (int mask : masks) {
                cutsAll &= (mask & set) != 0;
            }
            best = cutsAll ? set : best;
        }
        return best;
    }

    int worlds(int row) {
        if (poly(row) == null) {
            return NO_SUCH;
        }
        int lineage = lineage(row);
        int[] masks = poly(row).keySet().stream().mapToInt(Model::mask).toArray();
        int count = 0;
        for (int set = 0; set < 1 << 16; set++) {
            if ((set & ~lineage) != 0) {
                continue;
            }
            boolean isIn = false;
            for (int mask : masks) {
                isIn |= (mask & ~set) == 0;
            }
            count += isIn ? 1 : 0;
        }
        return count;
    }

    int lostIf(int tags) {
        if (tags < 0 || (tags & ~tags()) != 0) {
            return BAD_VALUE;
        }
        return count(withdrawn()) - count(withdrawn() | tags);
    }

    int print(int row, int form) {
        int terms = terms(row, form);
        if (terms < 0) {
            return terms;
        }
        List<String> printed = new ArrayList<>();
        form(poly(row), form).forEach((m, c) -> {
            StringBuilder term = new StringBuilder(c.equals(BigInteger.ONE) ? "" : c.toString());
            for (int i = 0; i < 16; i++) {
                if (m.get(i) > 0) {
                    term.append("abcdefghijklmnop".charAt(i)).append(m.get(i) > 1 ? "^" + m.get(i) : "");
                }
            }
            printed.add(term.toString());
        });
        paper = String.join("+", printed);
        return paper.length();
    }

    int printed(int index) {
        return index < 0 || index >= paper.length() ? NO_SUCH : paper.charAt(index);
    }

    // ---- for the tests alone

    /** NOT_POSSIBLE, TOO_MANY or the number of rows of a query on the tables as they are. */
    int tryQuery(String query) {
        Node node = parse(query);
        if (width(node) < 0) {
            return NOT_POSSIBLE;
        }
        try {
            return relation(node, state).rows.size();
        } catch (Stop tooLarge) {
            return TOO_MANY;
        }
    }
}
