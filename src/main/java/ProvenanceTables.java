/**
 * A small relational database whose answers carry provenance polynomials.
 *
 * Every array and every relation is made with the object and used again, since all calls of a
 * run share one bounded room.
 */
public final class ProvenanceTables {
    public static final int NO_SUCH = -1;
    public static final int BAD_VALUE = -2;
    public static final int BAD_TEXT = -3;
    public static final int TOO_MANY = -4;
    public static final int NOT_POSSIBLE = -5;
    public static final int NONE = -6;

    private static final int TABLES = 4;
    private static final int MOST_TABLE_COLUMNS = 3;
    private static final int MOST_COLUMNS = 4;
    private static final int TAG_ROOM = 16;
    private static final int MOST_COST = 999;
    private static final int MOST_TRUST = 100;
    private static final int MOST_ROWS = 32;
    private static final int MOST_TERMS = 32;
    private static final int FORMS = 5;
    private static final int TEXT_ROOM = 60;
    private static final int HISTORY_ROOM = 4;
    /** 32 terms of at most 15 digits and 12 characters for tags and exponents, and the signs between. */
    private static final int PRINT_ROOM = 1024;

    private final State state = new State();
    private final State trial = new State();
    private final History history = new History();
    private final Line text = new Line(TEXT_ROOM);
    private final Line paper = new Line(PRINT_ROOM);
    /** The text as it was read last, and the current query of the state. */
    private final Query draft = new Query();
    private final Query current = new Query();
    private final Evaluator evaluator = new Evaluator();
    private final Polynomial shown = new Polynomial();
    private final TagSets tagSets = new TagSets();

    public ProvenanceTables() {
    }

    // ---- actions on base tables

    public int setColumns(int table, int columns) {
        if (!isTable(table)) {
            return NO_SUCH;
        }
        if (columns < 1 || columns > MOST_TABLE_COLUMNS) {
            return BAD_VALUE;
        }
        if (state.hasRowIn(table) || state.queryNames(table)) {
            return NOT_POSSIBLE;
        }
        int before = state.widthOf(table);
        history.record(state);
        state.setWidth(table, columns);
        return before;
    }

    public int addRow(int table, int values) {
        if (!isTable(table)) {
            return NO_SUCH;
        }
        int width = state.widthOf(table);
        if (values < 0 || Key.hasMoreDigits(values, width)) {
            return BAD_VALUE;
        }
        int tag = state.freeTag();
        if (tag < 0) {
            return TOO_MANY;
        }
        trial.copy(state);
        trial.place(tag, table, Key.ofDecimal(values, width));
        if (!evaluator.compute(current, trial)) {
            return TOO_MANY;
        }
        history.record(state);
        state.copy(trial);
        evaluator.keepResult();
        return tag;
    }

    public int dropRow(int tag) {
        if (!state.hasTag(tag)) {
            return NO_SUCH;
        }
        history.record(state);
        state.remove(tag);
        refreshAnswer();
        return Integer.bitCount(state.tagMask());
    }

    public int setCost(int tag, int cost) {
        if (!state.hasTag(tag)) {
            return NO_SUCH;
        }
        if (cost < 0 || cost > MOST_COST) {
            return BAD_VALUE;
        }
        int before = state.costOf(tag);
        history.record(state);
        state.changeCost(tag, cost);
        return before;
    }

    public int setTrust(int tag, int trust) {
        if (!state.hasTag(tag)) {
            return NO_SUCH;
        }
        if (trust < 0 || trust > MOST_TRUST) {
            return BAD_VALUE;
        }
        int before = state.trustOf(tag);
        history.record(state);
        state.changeTrust(tag, trust);
        return before;
    }

    public int setWithdrawn(int tag, boolean isWithdrawn) {
        if (!state.hasTag(tag)) {
            return NO_SUCH;
        }
        history.record(state);
        state.withdraw(tag, isWithdrawn);
        return presentRows();
    }

    // ---- actions on the current query

    public int setQuery() {
        if (!draft.read(text)) {
            return BAD_TEXT;
        }
        if (!draft.fits(state)) {
            return NOT_POSSIBLE;
        }
        if (!evaluator.compute(draft, state)) {
            return TOO_MANY;
        }
        history.record(state);
        state.queryLine().copy(text);
        current.read(state.queryLine());
        evaluator.keepResult();
        return answerRows();
    }

    public int dropQuery() {
        if (state.queryLine().length() == 0) {
            return NOT_POSSIBLE;
        }
        int before = answerRows();
        history.record(state);
        state.queryLine().clear();
        current.read(state.queryLine());
        refreshAnswer();
        return before;
    }

    // ---- text

    public int append(int character) {
        if (character < 32 || character > 126) {
            return BAD_VALUE;
        }
        if (!text.add((char) character)) {
            return TOO_MANY;
        }
        return text.length();
    }

    public int clearText() {
        int before = text.length();
        text.clear();
        return before;
    }

    public int fault() {
        return draft.read(text) ? NONE : draft.stoppedAt();
    }

    // ---- history

    public int undo() {
        State latest = history.takeLatest();
        if (latest == null) {
            return NONE;
        }
        state.copy(latest);
        current.read(state.queryLine());
        refreshAnswer();
        return history.size();
    }

    // ---- base tables and current query; these methods change nothing

    public int columns(int table) {
        return isTable(table) ? state.widthOf(table) : NO_SUCH;
    }

    public int tags() {
        return state.tagMask();
    }

    public int withdrawn() {
        return state.withdrawnMask();
    }

    public int tableOf(int tag) {
        return state.hasTag(tag) ? state.tableAt(tag) : NO_SUCH;
    }

    public int value(int tag, int column) {
        if (!state.hasTag(tag)) {
            return NO_SUCH;
        }
        int width = state.widthOf(state.tableAt(tag));
        if (column < 0 || column >= width) {
            return NO_SUCH;
        }
        return Key.digit(state.keyOf(tag), width, column);
    }

    public int cost(int tag) {
        return state.hasTag(tag) ? state.costOf(tag) : NO_SUCH;
    }

    public int trust(int tag) {
        return state.hasTag(tag) ? state.trustOf(tag) : NO_SUCH;
    }

    public int queryLength() {
        return state.queryLine().length();
    }

    public int queryAt(int index) {
        return state.queryLine().codeAt(index);
    }

    // ---- the answer; these methods change nothing

    public int answerRows() {
        return evaluator.answer().size();
    }

    public int answerColumns() {
        return evaluator.answer().width();
    }

    public int answerValue(int row, int column) {
        Relation answer = evaluator.answer();
        if (!answer.hasRow(row) || column < 0 || column >= answer.width()) {
            return NO_SUCH;
        }
        return Key.digit(answer.keyAt(row), answer.width(), column);
    }

    public int terms(int row, int form) {
        Polynomial polynomial = evaluator.answer().polynomialAt(row);
        if (polynomial == null) {
            return NO_SUCH;
        }
        if (!isForm(form)) {
            return BAD_VALUE;
        }
        shown.setToForm(polynomial, form);
        return shown.size();
    }

    public long coefficient(int row, int form, int term) {
        Polynomial polynomial = evaluator.answer().polynomialAt(row);
        if (polynomial == null) {
            return NO_SUCH;
        }
        if (!isForm(form)) {
            return BAD_VALUE;
        }
        shown.setToForm(polynomial, form);
        return shown.hasTerm(term) ? shown.factorAt(term) : NO_SUCH;
    }

    public int exponent(int row, int form, int term, int tag) {
        Polynomial polynomial = evaluator.answer().polynomialAt(row);
        if (polynomial == null) {
            return NO_SUCH;
        }
        if (!isForm(form) || tag < 0 || tag >= TAG_ROOM) {
            return BAD_VALUE;
        }
        shown.setToForm(polynomial, form);
        return shown.hasTerm(term) ? Monomial.power(shown.monomialAt(term), tag) : NO_SUCH;
    }

    public int lineage(int row) {
        Polynomial polynomial = evaluator.answer().polynomialAt(row);
        return polynomial == null ? NO_SUCH : polynomial.allTags();
    }

    // ---- evaluation; these methods change nothing

    public long derivations(int row) {
        if (!showAvailable(row)) {
            return NO_SUCH;
        }
        long sum = 0;
        for (int term = 0; term < shown.size(); term++) {
            sum += shown.factorAt(term);
        }
        return sum;
    }

    public int leastCost(int row) {
        if (!showAvailable(row)) {
            return NO_SUCH;
        }
        if (shown.size() == 0) {
            return NONE;
        }
        return state.costOfTerm(shown.monomialAt(cheapestShown()));
    }

    public int cheapestTags(int row) {
        if (!showAvailable(row)) {
            return NO_SUCH;
        }
        if (shown.size() == 0) {
            return NONE;
        }
        return Monomial.tagSet(shown.monomialAt(cheapestShown()));
    }

    public int answerTrust(int row) {
        if (!showAvailable(row)) {
            return NO_SUCH;
        }
        if (shown.size() == 0) {
            return NONE;
        }
        int best = 0;
        for (int term = 0; term < shown.size(); term++) {
            best = Math.max(best, state.trustOfTerm(shown.monomialAt(term)));
        }
        return best;
    }

    public float confidence(int row) {
        if (!showAvailable(row)) {
            return -1.0f;
        }
        float best = 0.0f;
        for (int term = 0; term < shown.size(); term++) {
            float confidence = state.confidenceOfTerm(shown.monomialAt(term));
            best = confidence > best ? confidence : best;
        }
        return best;
    }

    // ---- withdrawing base rows; these methods change nothing

    public int needed(int row) {
        if (!showAvailable(row)) {
            return NO_SUCH;
        }
        if (shown.size() == 0) {
            return NONE;
        }
        int common = state.tagMask();
        for (int term = 0; term < shown.size(); term++) {
            common &= Monomial.tagSet(shown.monomialAt(term));
        }
        return common;
    }

    public int smallestCut(int row) {
        if (!showAvailable(row)) {
            return NO_SUCH;
        }
        if (shown.size() == 0) {
            return NONE;
        }
        tagSets.setTo(shown);
        return tagSets.leastCut();
    }

    public int worlds(int row) {
        Polynomial polynomial = evaluator.answer().polynomialAt(row);
        if (polynomial == null) {
            return NO_SUCH;
        }
        tagSets.setTo(polynomial);
        return tagSets.countWorlds();
    }

    public int lostIf(int tags) {
        if (tags < 0 || (tags & ~state.tagMask()) != 0) {
            return BAD_VALUE;
        }
        Relation answer = evaluator.answer();
        int withdrawnNow = state.withdrawnMask();
        return answer.countPresent(withdrawnNow) - answer.countPresent(withdrawnNow | tags);
    }

    // ---- printing

    public int print(int row, int form) {
        Polynomial polynomial = evaluator.answer().polynomialAt(row);
        if (polynomial == null) {
            return NO_SUCH;
        }
        if (!isForm(form)) {
            return BAD_VALUE;
        }
        shown.setToForm(polynomial, form);
        paper.clear();
        for (int term = 0; term < shown.size(); term++) {
            if (term > 0) {
                paper.add('+');
            }
            printTerm(shown.monomialAt(term), shown.factorAt(term));
        }
        return paper.length();
    }

    public int printed(int index) {
        return paper.codeAt(index);
    }

    // ---- helpers of the face

    private static boolean isTable(int table) {
        return table >= 0 && table < TABLES;
    }

    private static boolean isForm(int form) {
        return form >= 0 && form < FORMS;
    }

    /** For changes that never make the query too large. */
    private void refreshAnswer() {
        if (evaluator.compute(current, state)) {
            evaluator.keepResult();
        }
    }

    private int presentRows() {
        return evaluator.answer().countPresent(state.withdrawnMask());
    }

    /** False if there is no such row. */
    private boolean showAvailable(int row) {
        Polynomial polynomial = evaluator.answer().polynomialAt(row);
        if (polynomial == null) {
            return false;
        }
        shown.setToAvailable(polynomial, state.withdrawnMask());
        return true;
    }

    private int cheapestShown() {
        int best = 0;
        int bestCost = state.costOfTerm(shown.monomialAt(0));
        for (int term = 1; term < shown.size(); term++) {
            int termCost = state.costOfTerm(shown.monomialAt(term));
            if (termCost < bestCost) {
                best = term;
                bestCost = termCost;
            }
        }
        return best;
    }

    private void printTerm(long monomial, long factor) {
        if (factor > 1) {
            paper.addNumber(factor);
        }
        for (int tag = 0; tag < TAG_ROOM; tag++) {
            int power = Monomial.power(monomial, tag);
            if (power > 0) {
                paper.add((char) ('a' + tag));
            }
            if (power > 1) {
                paper.add('^');
                paper.addNumber(power);
            }
        }
    }

    /**
     * The values of a row in one number, four bits for each and the last column lowest, so that the
     * order of the numbers is the order of the rows.
     */
    private static final class Key {
        private Key() {
        }

        static boolean hasMoreDigits(int values, int width) {
            int rest = values;
            for (int column = 0; column < width; column++) {
                rest = rest / 10;
            }
            return rest > 0;
        }

        static int ofDecimal(int values, int width) {
            int key = 0;
            int rest = values;
            for (int column = 0; column < width; column++) {
                key |= (rest % 10) << (4 * column);
                rest = rest / 10;
            }
            return key;
        }

        static int digit(int key, int width, int column) {
            return (key >> (4 * (width - 1 - column))) & 15;
        }

        static int join(int left, int right, int rightWidth) {
            return (left << (4 * rightWidth)) | right;
        }
    }

    /**
     * A monomial in one number, four bits for each exponent and the tag 0 highest, so that the
     * first of two monomials is the greater one, without sign. Four bits are enough: the text of a
     * query has room for joins of 9 tables.
     */
    private static final class Monomial {
        /** With this bit turned over, numbers compare with sign as they did without. */
        static final long SIGN_BIT = 0x8000000000000000L;

        private static final long LOW_BITS = 0x1111111111111111L;

        private Monomial() {
        }

        static long ofTag(int tag) {
            return 1L << (60 - 4 * tag);
        }

        static int power(long monomial, int tag) {
            return (int) (monomial >>> (60 - 4 * tag)) & 15;
        }

        static long withoutPowers(long monomial) {
            return (monomial | monomial >>> 1 | monomial >>> 2 | monomial >>> 3) & LOW_BITS;
        }

        static int tagSet(long monomial) {
            int tags = 0;
            for (int tag = 0; tag < TAG_ROOM; tag++) {
                if (power(monomial, tag) > 0) {
                    tags |= 1 << tag;
                }
            }
            return tags;
        }

        /** All bits of the exponents of these tags, to be held against many monomials. */
        static long maskOf(int tags) {
            long mask = 0;
            for (int tag = 0; tag < TAG_ROOM; tag++) {
                if ((tags >> tag & 1) != 0) {
                    mask |= 15L << (60 - 4 * tag);
                }
            }
            return mask;
        }
    }

    /** A sum of terms, held in the order of the terms. */
    private static final class Polynomial {
        private final long[] monomials = new long[MOST_TERMS];
        private final long[] factors = new long[MOST_TERMS];
        private int size;

        int size() {
            return size;
        }

        void clear() {
            size = 0;
        }

        boolean hasTerm(int term) {
            return term >= 0 && term < size && term < MOST_TERMS;
        }

        long monomialAt(int term) {
            return hasTerm(term) ? monomials[term] : 0;
        }

        long factorAt(int term) {
            return hasTerm(term) ? factors[term] : 0;
        }

        /** False if this would be a term too many. */
        boolean addTerm(long monomial, long factor) {
            int spot = 0;
            long rank = monomial ^ Monomial.SIGN_BIT;
            while (spot < size && spot < MOST_TERMS && (monomials[spot] ^ Monomial.SIGN_BIT) > rank) {
                spot++;
            }
            if (spot < size && spot < MOST_TERMS && monomials[spot] == monomial) {
                factors[spot] += factor;
                return true;
            }
            if (size >= MOST_TERMS) {
                return false;
            }
            for (int i = size; i > spot; i--) {
                monomials[i] = monomials[i - 1];
                factors[i] = factors[i - 1];
            }
            monomials[spot] = monomial;
            factors[spot] = factor;
            size++;
            return true;
        }

        boolean addAll(Polynomial other) {
            for (int term = 0; term < other.size && term < MOST_TERMS; term++) {
                if (!addTerm(other.monomials[term], other.factors[term])) {
                    return false;
                }
            }
            return true;
        }

        boolean addProduct(Polynomial left, Polynomial right) {
            for (int i = 0; i < left.size && i < MOST_TERMS; i++) {
                for (int k = 0; k < right.size && k < MOST_TERMS; k++) {
                    long monomial = left.monomials[i] + right.monomials[k];
                    if (!addTerm(monomial, left.factors[i] * right.factors[k])) {
                        return false;
                    }
                }
            }
            return true;
        }

        int allTags() {
            long union = 0;
            for (int term = 0; term < size; term++) {
                union |= monomialAt(term);
            }
            return Monomial.tagSet(union);
        }

        boolean hasTermWithout(long mask) {
            for (int term = 0; term < size; term++) {
                if ((monomialAt(term) & mask) == 0) {
                    return true;
                }
            }
            return false;
        }

        void setToAvailable(Polynomial source, int withdrawnTags) {
            long mask = Monomial.maskOf(withdrawnTags);
            clear();
            for (int term = 0; term < source.size(); term++) {
                if ((source.monomialAt(term) & mask) == 0) {
                    addTerm(source.monomialAt(term), source.factorAt(term));
                }
            }
        }

        void setToForm(Polynomial source, int form) {
            clear();
            for (int term = 0; term < source.size(); term++) {
                long monomial = source.monomialAt(term);
                addTerm(form < 2 ? monomial : Monomial.withoutPowers(monomial), source.factorAt(term));
            }
            if (form == 4) {
                dropContaining();
            }
            if (form != 0 && form != 2) {
                setFactorsToOne();
            }
        }

        private void setFactorsToOne() {
            for (int term = 0; term < size && term < MOST_TERMS; term++) {
                factors[term] = 1;
            }
        }

        /** For a polynomial without powers. */
        private void dropContaining() {
            int marked = 0;
            for (int term = 0; term < size; term++) {
                if (containsAnother(term)) {
                    marked |= 1 << term;
                }
            }
            int kept = 0;
            for (int term = 0; term < size && term < MOST_TERMS; term++) {
                if ((marked >> term & 1) == 0 && kept <= term) {
                    monomials[kept] = monomials[term];
                    factors[kept] = factors[term];
                    kept++;
                }
            }
            size = kept;
        }

        private boolean containsAnother(int term) {
            long monomial = monomialAt(term);
            for (int other = 0; other < size; other++) {
                long part = monomialAt(other);
                if (other != term && (monomial & part) == part) {
                    return true;
                }
            }
            return false;
        }
    }

    /** Rows in ascending order of their keys, each with a polynomial. */
    private static final class Relation {
        private final int[] keys = new int[MOST_ROWS];
        private final Polynomial[] polynomials = new Polynomial[MOST_ROWS];
        private int width;
        private int size;

        Relation() {
            for (int row = 0; row < MOST_ROWS; row++) {
                polynomials[row] = new Polynomial();
            }
        }

        void clear(int columnCount) {
            width = columnCount;
            size = 0;
        }

        int width() {
            return width;
        }

        int size() {
            return size;
        }

        boolean hasRow(int row) {
            return row >= 0 && row < size && row < MOST_ROWS;
        }

        int keyAt(int row) {
            return hasRow(row) ? keys[row] : 0;
        }

        /** Null if there is no such row. */
        Polynomial polynomialAt(int row) {
            return hasRow(row) ? polynomials[row] : null;
        }

        int countPresent(int withdrawnTags) {
            long mask = Monomial.maskOf(withdrawnTags);
            int count = 0;
            for (int row = 0; row < size; row++) {
                Polynomial polynomial = polynomialAt(row);
                if (polynomial != null && polynomial.hasTermWithout(mask)) {
                    count++;
                }
            }
            return count;
        }

        /** A row that is not there yet is made; null if it would be one too many. */
        Polynomial rowWith(int key) {
            int spot = 0;
            while (spot < size && spot < MOST_ROWS && keys[spot] < key) {
                spot++;
            }
            if (spot < size && spot < MOST_ROWS && keys[spot] == key) {
                return polynomials[spot];
            }
            if (size >= MOST_ROWS) {
                return null;
            }
            Polynomial fresh = polynomials[size];
            if (fresh == null) {
                return null;
            }
            for (int i = size; i > spot; i--) {
                keys[i] = keys[i - 1];
                polynomials[i] = polynomials[i - 1];
            }
            fresh.clear();
            keys[spot] = key;
            polynomials[spot] = fresh;
            size++;
            return fresh;
        }
    }

    /** Characters up to a number that is set when the line is made. */
    private static final class Line {
        private final char[] signs;
        private int length;

        Line(int room) {
            signs = new char[Math.max(room, 0)];
        }

        int length() {
            return length;
        }

        void clear() {
            length = 0;
        }

        /** False if there is no more room. */
        boolean add(char sign) {
            if (length < 0 || length >= signs.length) {
                return false;
            }
            signs[length] = sign;
            length++;
            return true;
        }

        /** For numbers of at least 1. */
        void addNumber(long number) {
            long unit = 1;
            for (int digits = 1; digits < 19 && number / 10 >= unit; digits++) {
                unit *= 10;
            }
            for (int digits = 0; digits < 19 && unit > 0; digits++) {
                add((char) ('0' + number / unit % 10));
                unit /= 10;
            }
        }

        int codeAt(int index) {
            if (index < 0 || index >= length || index >= signs.length) {
                return NO_SUCH;
            }
            return signs[index];
        }

        boolean contains(char sign) {
            for (int i = 0; i < length; i++) {
                if (codeAt(i) == sign) {
                    return true;
                }
            }
            return false;
        }

        void copy(Line other) {
            clear();
            for (int i = 0; i < other.length(); i++) {
                add((char) other.codeAt(i));
            }
        }
    }

    /** The base tables with their base rows, and the characters of the current query. */
    private static final class State {
        private final int[] widths = new int[TABLES];
        private final int[] tables = new int[TAG_ROOM];
        private final int[] keys = new int[TAG_ROOM];
        private final int[] costs = new int[TAG_ROOM];
        private final int[] trusts = new int[TAG_ROOM];
        private final Line queryLine = new Line(TEXT_ROOM);
        private int tagMask;
        private int withdrawnMask;

        State() {
            for (int table = 0; table < TABLES; table++) {
                widths[table] = 2;
            }
        }

        void copy(State other) {
            copyNumbers(other.widths, widths);
            copyNumbers(other.tables, tables);
            copyNumbers(other.keys, keys);
            copyNumbers(other.costs, costs);
            copyNumbers(other.trusts, trusts);
            queryLine.copy(other.queryLine);
            tagMask = other.tagMask;
            withdrawnMask = other.withdrawnMask;
        }

        Line queryLine() {
            return queryLine;
        }

        int tagMask() {
            return tagMask;
        }

        int withdrawnMask() {
            return withdrawnMask;
        }

        boolean hasTag(int tag) {
            return tag >= 0 && tag < TAG_ROOM && (tagMask >> tag & 1) != 0;
        }

        /** The least tag that no base row has; -1 if there is none. */
        int freeTag() {
            for (int tag = 0; tag < TAG_ROOM; tag++) {
                if (!hasTag(tag)) {
                    return tag;
                }
            }
            return -1;
        }

        boolean hasRowIn(int table) {
            for (int tag = 0; tag < TAG_ROOM; tag++) {
                if (hasTag(tag) && tables[tag] == table) {
                    return true;
                }
            }
            return false;
        }

        boolean queryNames(int table) {
            return queryLine.contains((char) ('A' + table));
        }

        int widthOf(int table) {
            return isTable(table) ? widths[table] : 0;
        }

        void setWidth(int table, int width) {
            if (isTable(table)) {
                widths[table] = width;
            }
        }

        void place(int tag, int table, int key) {
            if (tag < 0 || tag >= TAG_ROOM) {
                return;
            }
            tables[tag] = table;
            keys[tag] = key;
            costs[tag] = 1;
            trusts[tag] = MOST_TRUST;
            tagMask |= 1 << tag;
            withdrawnMask &= ~(1 << tag);
        }

        void remove(int tag) {
            tagMask &= ~(1 << tag);
            withdrawnMask &= ~(1 << tag);
        }

        void withdraw(int tag, boolean isWithdrawn) {
            if (isWithdrawn) {
                withdrawnMask |= 1 << tag;
            } else {
                withdrawnMask &= ~(1 << tag);
            }
        }

        void changeCost(int tag, int cost) {
            if (hasTag(tag)) {
                costs[tag] = cost;
            }
        }

        void changeTrust(int tag, int trust) {
            if (hasTag(tag)) {
                trusts[tag] = trust;
            }
        }

        int tableAt(int tag) {
            return hasTag(tag) ? tables[tag] : NO_SUCH;
        }

        int keyOf(int tag) {
            return hasTag(tag) ? keys[tag] : 0;
        }

        int costOf(int tag) {
            return hasTag(tag) ? costs[tag] : 0;
        }

        int trustOf(int tag) {
            return hasTag(tag) ? trusts[tag] : 0;
        }

        int costOfTerm(long monomial) {
            int sum = 0;
            for (int tag = 0; tag < TAG_ROOM; tag++) {
                sum += Monomial.power(monomial, tag) * costOf(tag);
            }
            return sum;
        }

        int trustOfTerm(long monomial) {
            int least = MOST_TRUST;
            for (int tag = 0; tag < TAG_ROOM; tag++) {
                if (Monomial.power(monomial, tag) > 0) {
                    least = Math.min(least, trustOf(tag));
                }
            }
            return least;
        }

        float confidenceOfTerm(long monomial) {
            float product = 1.0f;
            for (int tag = 0; tag < TAG_ROOM; tag++) {
                float factor = (float) trustOf(tag) / 100.0f;
                for (int left = Monomial.power(monomial, tag); left > 0; left--) {
                    product = product * factor;
                }
            }
            return product;
        }

        private static void copyNumbers(int[] from, int[] to) {
            for (int i = 0; i < from.length && i < to.length; i++) {
                to[i] = from[i];
            }
        }
    }

    /** The latest states, the oldest one first. */
    private static final class History {
        private final State[] states = new State[HISTORY_ROOM];
        private int size;

        History() {
            for (int i = 0; i < HISTORY_ROOM; i++) {
                states[i] = new State();
            }
        }

        int size() {
            return size;
        }

        void record(State state) {
            if (size >= HISTORY_ROOM) {
                moveOldestToEnd();
                size = HISTORY_ROOM - 1;
            }
            State place = size >= 0 ? states[size] : null;
            if (place != null) {
                place.copy(state);
                size++;
            }
        }

        /** Null if there is none. The state is only to be copied: it will be used again. */
        State takeLatest() {
            if (size <= 0 || size > HISTORY_ROOM) {
                return null;
            }
            size--;
            return states[size];
        }

        private void moveOldestToEnd() {
            State oldest = states[0];
            for (int i = 1; i < HISTORY_ROOM; i++) {
                states[i - 1] = states[i];
            }
            states[HISTORY_ROOM - 1] = oldest;
        }
    }

    /**
     * A query, as it was read last. Its nodes are held in the order in which the text names them:
     * each one before its parts, so that a pass from the last to the first meets all parts of a
     * node before the node, the first part later than the second.
     */
    private static final class Query {
        static final int TABLE = 0;
        static final int SELECT_DIGIT = 1;
        static final int SELECT_SAME = 2;
        static final int PROJECT = 3;
        static final int JOIN = 4;
        static final int UNION = 5;

        /** On the stack of what is due, a whole query is due where this stands. */
        private static final char ANY_QUERY = 'q';
        /** A head of two characters leaves three signs due behind the query that comes next. */
        private static final int DUE_ROOM = 2 * TEXT_ROOM;

        private final int[] kinds = new int[TEXT_ROOM];
        private final int[] firsts = new int[TEXT_ROOM];
        private final int[] seconds = new int[TEXT_ROOM];
        private final int[] widthStack = new int[TEXT_ROOM];
        private final char[] due = new char[DUE_ROOM];
        private Line line;
        private int size;
        private int at;
        private int dueCount;
        private boolean isWhole;

        boolean isWhole() {
            return isWhole;
        }

        int size() {
            return size;
        }

        int stoppedAt() {
            return at;
        }

        int kindAt(int node) {
            return hasNode(node) ? kinds[node] : NO_SUCH;
        }

        int firstAt(int node) {
            return hasNode(node) ? firsts[node] : 0;
        }

        int secondAt(int node) {
            return hasNode(node) ? seconds[node] : 0;
        }

        /** How many parts a node of this kind has. */
        static int partsOf(int kind) {
            if (kind == TABLE) {
                return 0;
            }
            return kind == JOIN || kind == UNION ? 2 : 1;
        }

        /** False if the line is no query; it was read up to its fault then. */
        boolean read(Line source) {
            line = source;
            size = 0;
            at = 0;
            dueCount = 0;
            push(ANY_QUERY);
            boolean isFine = true;
            for (int step = 0; step <= TEXT_ROOM && isFine && dueCount > 0; step++) {
                char next = pop();
                isFine = next == ANY_QUERY ? readHead() : take(next);
            }
            isWhole = isFine && dueCount == 0 && at == source.length();
            return isWhole;
        }

        boolean fits(State state) {
            int top = 0;
            for (int node = size - 1; node >= 0; node--) {
                int first = top > 0 ? widthStack[top - 1] : 0;
                int second = top > 1 ? widthStack[top - 2] : 0;
                int width = widthOfNode(node, first, second, state);
                top -= partsOf(kindAt(node));
                if (width < 1 || width > MOST_COLUMNS || top < 0 || top >= TEXT_ROOM) {
                    return false;
                }
                widthStack[top] = width;
                top++;
            }
            return true;
        }

        private boolean hasNode(int node) {
            return node >= 0 && node < size && node < TEXT_ROOM;
        }

        /** 0 if the node does not fit. */
        private int widthOfNode(int node, int first, int second, State state) {
            int a = firstAt(node);
            int b = secondAt(node);
            switch (kindAt(node)) {
                case TABLE:
                    return state.widthOf(a);
                case SELECT_DIGIT:
                    return a < first ? first : 0;
                case SELECT_SAME:
                    return a < first && b < first ? first : 0;
                case PROJECT:
                    return namesColumnsBelow(first, a, b) ? a : 0;
                case JOIN:
                    return a < first && b < second ? first + second : 0;
                case UNION:
                    return first == second ? first : 0;
                default:
                    return 0;
            }
        }

        private static boolean namesColumnsBelow(int width, int count, int named) {
            for (int i = 0; i < count && i < MOST_COLUMNS; i++) {
                if (Key.digit(named, count, i) >= width) {
                    return false;
                }
            }
            return true;
        }

        private boolean readHead() {
            int sign = nextCode();
            if (sign >= 'A' && sign < 'A' + TABLES) {
                at++;
                return addNode(TABLE, sign - 'A', 0);
            }
            switch (sign) {
                case 's':
                    at++;
                    return readSelect();
                case 'p':
                    at++;
                    return readProject();
                case 'j':
                    at++;
                    return readJoin();
                case 'u':
                    at++;
                    return take('(') && addNode(UNION, 0, 0);
                default:
                    return false;
            }
        }

        private boolean readSelect() {
            int column = takeDigit(MOST_COLUMNS);
            if (column < 0) {
                return false;
            }
            int kind = nextCode() == '~' ? SELECT_SAME : SELECT_DIGIT;
            if (!take(kind == SELECT_SAME ? '~' : '=')) {
                return false;
            }
            int other = takeDigit(kind == SELECT_SAME ? MOST_COLUMNS : 10);
            return other >= 0 && take('(') && addNode(kind, column, other);
        }

        private boolean readProject() {
            int count = 0;
            int named = 0;
            for (int i = 0; i < MOST_COLUMNS; i++) {
                int column = takeDigit(MOST_COLUMNS);
                if (column < 0) {
                    break;
                }
                named = Key.join(named, column, 1);
                count++;
            }
            return count > 0 && take('(') && addNode(PROJECT, count, named);
        }

        private boolean readJoin() {
            int first = takeDigit(MOST_COLUMNS);
            if (first < 0) {
                return false;
            }
            int second = takeDigit(MOST_COLUMNS);
            return second >= 0 && take('(') && addNode(JOIN, first, second);
        }

        private boolean addNode(int kind, int first, int second) {
            if (size < 0 || size >= TEXT_ROOM) {
                return false;
            }
            kinds[size] = kind;
            firsts[size] = first;
            seconds[size] = second;
            size++;
            int parts = partsOf(kind);
            if (parts > 0) {
                push(')');
                push(ANY_QUERY);
            }
            if (parts > 1) {
                push(',');
                push(ANY_QUERY);
            }
            return true;
        }

        private int nextCode() {
            return line == null ? NO_SUCH : line.codeAt(at);
        }

        private boolean take(char sign) {
            if (nextCode() != sign) {
                return false;
            }
            at++;
            return true;
        }

        /** A digit below the limit; -1 if none comes next. */
        private int takeDigit(int limit) {
            int digit = nextCode() - '0';
            if (digit < 0 || digit >= limit) {
                return -1;
            }
            at++;
            return digit;
        }

        private void push(char sign) {
            if (dueCount >= 0 && dueCount < DUE_ROOM) {
                due[dueCount] = sign;
                dueCount++;
            }
        }

        private char pop() {
            if (dueCount <= 0 || dueCount > DUE_ROOM) {
                return ANY_QUERY;
            }
            dueCount--;
            return due[dueCount];
        }
    }

    /** Computes relations, and holds the one that is the answer. */
    private static final class Evaluator {
        /** A text has room for unions of 12 tables; each of them can wait for the others. */
        private static final int STACK_ROOM = 12;

        private final Relation[] stack = new Relation[STACK_ROOM];
        private Relation spare = new Relation();
        private Relation answer = new Relation();
        private int top;

        Evaluator() {
            for (int i = 0; i < STACK_ROOM; i++) {
                stack[i] = new Relation();
            }
        }

        Relation answer() {
            return answer;
        }

        /** False if the query is too large. Without a query the result has no rows and no columns. */
        boolean compute(Query query, State state) {
            top = 0;
            if (!query.isWhole()) {
                spare.clear(0);
                return pushSpare(0);
            }
            for (int node = query.size() - 1; node >= 0; node--) {
                if (!computeNode(query, node, state)) {
                    return false;
                }
            }
            return top == 1;
        }

        /** Makes the result the answer; the relation of the answer before is used again. */
        void keepResult() {
            Relation result = stack[0];
            if (result != null) {
                stack[0] = answer;
                answer = result;
            }
        }

        private boolean computeNode(Query query, int node, State state) {
            int kind = query.kindAt(node);
            int parts = Query.partsOf(kind);
            Relation first = waiting(1);
            Relation second = waiting(2);
            if (parts > 0 && first == null || parts > 1 && second == null) {
                return false;
            }
            int a = query.firstAt(node);
            int b = query.secondAt(node);
            boolean isFine;
            switch (kind) {
                case Query.TABLE:
                    isFine = fillTable(a, state);
                    break;
                case Query.SELECT_DIGIT:
                case Query.SELECT_SAME:
                    isFine = fillSelect(first, kind, a, b);
                    break;
                case Query.PROJECT:
                    isFine = fillProject(first, a, b);
                    break;
                case Query.JOIN:
                    isFine = fillJoin(first, second, a, b);
                    break;
                default:
                    isFine = fillUnion(first, second);
                    break;
            }
            return isFine && pushSpare(parts);
        }

        private boolean fillTable(int table, State state) {
            spare.clear(state.widthOf(table));
            for (int tag = 0; tag < TAG_ROOM; tag++) {
                if (state.tableAt(tag) != table) {
                    continue;
                }
                Polynomial sum = spare.rowWith(state.keyOf(tag));
                if (sum == null || !sum.addTerm(Monomial.ofTag(tag), 1)) {
                    return false;
                }
            }
            return true;
        }

        private boolean fillSelect(Relation source, int kind, int column, int other) {
            int width = source.width();
            spare.clear(width);
            for (int row = 0; row < source.size(); row++) {
                int key = source.keyAt(row);
                int wanted = kind == Query.SELECT_SAME ? Key.digit(key, width, other) : other;
                if (Key.digit(key, width, column) == wanted && !addToSpare(key, source, row)) {
                    return false;
                }
            }
            return true;
        }

        private boolean fillProject(Relation source, int count, int named) {
            spare.clear(count);
            for (int row = 0; row < source.size(); row++) {
                int key = 0;
                for (int i = 0; i < count && i < MOST_COLUMNS; i++) {
                    int column = Key.digit(named, count, i);
                    key = Key.join(key, Key.digit(source.keyAt(row), source.width(), column), 1);
                }
                if (!addToSpare(key, source, row)) {
                    return false;
                }
            }
            return true;
        }

        private boolean fillJoin(Relation left, Relation right, int leftColumn, int rightColumn) {
            spare.clear(left.width() + right.width());
            for (int i = 0; i < left.size(); i++) {
                int wanted = Key.digit(left.keyAt(i), left.width(), leftColumn);
                for (int k = 0; k < right.size(); k++) {
                    if (Key.digit(right.keyAt(k), right.width(), rightColumn) != wanted) {
                        continue;
                    }
                    Polynomial product = spare.rowWith(Key.join(left.keyAt(i), right.keyAt(k), right.width()));
                    Polynomial a = left.polynomialAt(i);
                    Polynomial b = right.polynomialAt(k);
                    if (product == null || a == null || b == null || !product.addProduct(a, b)) {
                        return false;
                    }
                }
            }
            return true;
        }

        private boolean fillUnion(Relation left, Relation right) {
            spare.clear(left.width());
            for (int row = 0; row < left.size(); row++) {
                if (!addToSpare(left.keyAt(row), left, row)) {
                    return false;
                }
            }
            for (int row = 0; row < right.size(); row++) {
                if (!addToSpare(right.keyAt(row), right, row)) {
                    return false;
                }
            }
            return true;
        }

        private boolean addToSpare(int key, Relation source, int row) {
            Polynomial sum = spare.rowWith(key);
            Polynomial summand = source.polynomialAt(row);
            return sum != null && summand != null && sum.addAll(summand);
        }

        /** The relation that was pushed last is the one at depth 1; null if there is none so deep. */
        private Relation waiting(int depth) {
            int index = top - depth;
            return index >= 0 && index < STACK_ROOM ? stack[index] : null;
        }

        /** Puts the relation just filled in the place of those that it was made of. */
        private boolean pushSpare(int parts) {
            int index = top - parts;
            if (index < 0 || index >= STACK_ROOM) {
                return false;
            }
            Relation replaced = stack[index];
            if (replaced == null) {
                return false;
            }
            stack[index] = spare;
            spare = replaced;
            top = index + 1;
            return true;
        }
    }

    /** The sets of tags of the terms of a polynomial. */
    private static final class TagSets {
        private final int[] sets = new int[MOST_TERMS];
        /** For each tag, the terms that have it, and the terms whose last tag it is. */
        private final int[] users = new int[TAG_ROOM];
        private final int[] endings = new int[TAG_ROOM];
        private int size;

        void setTo(Polynomial polynomial) {
            size = Math.min(polynomial.size(), MOST_TERMS);
            for (int term = 0; term < size && term < MOST_TERMS; term++) {
                sets[term] = Monomial.tagSet(polynomial.monomialAt(term));
            }
        }

        int leastCut() {
            return searchCut(sets, size, 0, union(), 0);
        }

        int countWorlds() {
            int alive = 0;
            for (int term = 0; term < size; term++) {
                alive |= 1 << term;
            }
            for (int tag = 0; tag < TAG_ROOM; tag++) {
                users[tag] = termsWith(tag, false);
                endings[tag] = termsWith(tag, true);
            }
            return countFrom(users, endings, union(), 0, alive);
        }

        private int union() {
            int all = 0;
            for (int term = 0; term < size && term < MOST_TERMS; term++) {
                all |= sets[term];
            }
            return all;
        }

        private int termsWith(int tag, boolean isLast) {
            int found = 0;
            for (int term = 0; term < size && term < MOST_TERMS; term++) {
                int rest = sets[term] >> tag;
                if (isLast ? rest == 1 : (rest & 1) != 0) {
                    found |= 1 << term;
                }
            }
            return found;
        }

        /**
         * The best one of the given cut and of all cuts that hold the chosen tags. A cut has a tag
         * of every set, thus of the first set without a chosen tag: only these tags are tried.
         */
        private static int searchCut(int[] sets, int size, int chosen, int best, int depth) {
            int missed = firstWithout(sets, size, chosen);
            if (missed == 0) {
                return isBetterCut(chosen, best) ? chosen : best;
            }
            if (depth >= TAG_ROOM || Integer.bitCount(chosen) >= Integer.bitCount(best)) {
                return best;
            }
            int found = best;
            for (int tag = 0; tag < TAG_ROOM; tag++) {
                if ((missed >> tag & 1) != 0) {
                    found = searchCut(sets, size, chosen | 1 << tag, found, depth + 1);
                }
            }
            return found;
        }

        /** 0 if every set has a chosen tag. */
        private static int firstWithout(int[] sets, int size, int chosen) {
            for (int term = 0; term < size && term < sets.length; term++) {
                if ((sets[term] & chosen) == 0) {
                    return sets[term];
                }
            }
            return 0;
        }

        private static boolean isBetterCut(int cut, int other) {
            int difference = Integer.bitCount(cut) - Integer.bitCount(other);
            return difference < 0 || difference == 0 && cut < other;
        }

        /**
         * Counts the sets of tags from the given one on that make a term whole, where the terms
         * that are alive lack none of the tags before.
         */
        private static int countFrom(int[] users, int[] endings, int all, int tag, int alive) {
            if (alive == 0 || tag >= TAG_ROOM || tag >= users.length || tag >= endings.length) {
                return 0;
            }
            if ((all >> tag & 1) == 0) {
                return countFrom(users, endings, all, tag + 1, alive);
            }
            int without = countFrom(users, endings, all, tag + 1, alive & ~users[tag]);
            if ((alive & endings[tag]) != 0) {
                return without + (1 << Integer.bitCount(all >> (tag + 1)));
            }
            if ((alive & users[tag]) == 0) {
                return 2 * without;
            }
            return without + countFrom(users, endings, all, tag + 1, alive);
        }
    }
}
