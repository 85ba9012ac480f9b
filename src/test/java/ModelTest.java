import java.util.Map;
import java.util.TreeMap;

/** Random runs, always the same ones, in which the program and the model must agree on every call. */
public final class ModelTest {
    private static final int RUNS = 2500;
    private static final int CALLS = 512;

    private static long seed = 20261119;
    private static int wrong = 0;
    private static final Map<String, Integer> seen = new TreeMap<>();

    private ProvenanceTables x = new ProvenanceTables();
    private Model m = new Model();
    private final StringBuilder told = new StringBuilder();
    private int calls = 0;
    private boolean isOver = false;

    public static void main(String[] args) {
        for (int run = 0; run < RUNS && wrong < 5; run++) {
            new ModelTest().run(run % 8);
        }
        System.out.println(wrong == 0 ? "program and model agree: " + seen : wrong + " runs differ");
        if (wrong != 0) {
            System.exit(1);
        }
    }

    private static int below(int limit) {
        seed = seed * 6364136223846793005L + 1442695040888963407L;
        return (int) ((seed >>> 33) % limit);
    }

    private static boolean oneIn(int limit) {
        return below(limit) == 0;
    }

    private void run(int kind) {
        int digits = kind % 4 == 3 ? 10 : 1 + kind % 4;
        int rowsWanted = kind < 4 ? 5 + below(5) : 16;
        for (int table = 0; table < 4; table++) {
            if (!oneIn(3)) {
                int columns = 1 + below(3);
                due("setColumns(" + table + "," + columns + ")", x.setColumns(table, columns), m.setColumns(table, columns));
            }
        }
        int tables = 1 + below(4);
        for (int i = 0; i < rowsWanted; i++) {
            addRow(below(tables), digits);
        }
        while (!isOver && calls < CALLS) {
            if (oneIn(3)) {
                useQuery();
            }
            int some = 5 + below(40);
            for (int i = 0; i < some && !isOver && calls < CALLS; i++) {
                if (oneIn(5)) {
                    act(tables, digits);
                } else {
                    look();
                }
            }
        }
    }

    private void addRow(int table, int digits) {
        int values = 0;
        for (int i = 0; i < m.columns(table); i++) {
            values = values * 10 + below(digits);
        }
        due("addRow(" + table + "," + values + ")", x.addRow(table, values), m.addRow(table, values));
    }

    private void useQuery() {
        boolean wantsTooLarge = oneIn(6);
        int least = oneIn(10) ? -7 : below(4);
        String query = query(2 + below(5));
        for (int attempt = 0; attempt < 200; attempt++) {
            int rows = query.length() > 60 ? -7 : m.tryQuery(query);
            if (wantsTooLarge ? rows == Model.TOO_MANY : rows >= least) {
                break;
            }
            query = query(2 + below(5));
        }
        if (oneIn(8)) {
            query = broken(query);
        }
        due("clearText()", x.clearText(), m.clearText());
        for (int i = 0; i < query.length(); i++) {
            int c = query.charAt(i);
            due("append(" + c + ")", x.append(c), m.append(c));
            if (oneIn(12)) {
                due("fault()", x.fault(), m.fault());
            }
        }
        due("fault()", x.fault(), m.fault());
        due("setQuery()", x.setQuery(), m.setQuery());
    }

    private static String broken(String query) {
        int at = below(query.length() + 1);
        String sign = "" + "ABCDEspju0123456789=~(), a".charAt(below(26));
        String rest = query.substring(at);
        return query.substring(0, at) + (oneIn(3) ? "" : sign) + (oneIn(2) || rest.isEmpty() ? rest : rest.substring(1));
    }

    private static String query(int depth) {
        int kind = depth == 0 ? 0 : below(12);
        if (kind < 2) {
            return "" + "AAABBCD".charAt(below(7));
        }
        if (kind < 3) {
            return "s" + below(3) + "=" + below(oneIn(3) ? 10 : 2) + "(" + query(depth - 1) + ")";
        }
        if (kind < 4) {
            return "s" + below(3) + "~" + below(3) + "(" + query(depth - 1) + ")";
        }
        if (kind < 8) {
            StringBuilder project = new StringBuilder("p" + below(3));
            while (project.length() < 5 && oneIn(2)) {
                project.append(below(4));
            }
            return project + "(" + query(depth - 1) + ")";
        }
        String parts = "(" + query(depth - 1) + "," + query(depth - 1) + ")";
        return kind < 10 ? "u" + parts : "j" + below(2) + below(2) + parts;
    }

    private int tag() {
        return oneIn(6) ? below(20) - 2 : below(10);
    }

    private void act(int tables, int digits) {
        int tag = tag();
        switch (below(11)) {
            case 0, 1 -> addRow(below(tables), digits);
            case 2 -> {
                int table = below(6) - 1;
                int values = below(1200) - 20;
                due("addRow(" + table + "," + values + ")", x.addRow(table, values), m.addRow(table, values));
            }
            case 3 -> due("dropRow(" + tag + ")", x.dropRow(tag), m.dropRow(tag));
            case 4 -> {
                int cost = oneIn(4) ? below(1020) - 10 : below(4);
                due("setCost(" + tag + "," + cost + ")", x.setCost(tag, cost), m.setCost(tag, cost));
            }
            case 5 -> {
                int trust = below(110) - 5;
                due("setTrust(" + tag + "," + trust + ")", x.setTrust(tag, trust), m.setTrust(tag, trust));
            }
            case 6, 7 -> {
                boolean is = !oneIn(3);
                due("setWithdrawn(" + tag + "," + is + ")", x.setWithdrawn(tag, is), m.setWithdrawn(tag, is));
            }
            case 8 -> {
                int table = below(6) - 1;
                int columns = below(5);
                due("setColumns(" + table + "," + columns + ")", x.setColumns(table, columns), m.setColumns(table, columns));
            }
            case 9 -> {
                if (oneIn(4)) {
                    due("dropQuery()", x.dropQuery(), m.dropQuery());
                }
            }
            default -> {
                if (oneIn(3)) {
                    due("undo()", x.undo(), m.undo());
                }
            }
        }
    }

    private void look() {
        int rows = m.answerRows();
        int row = rows == 0 || oneIn(15) ? below(rows + 4) - 2 : below(rows);
        int form = oneIn(15) ? below(9) - 2 : below(5);
        int terms = Math.max(0, m.terms(row, form));
        int term = terms == 0 || oneIn(15) ? below(terms + 4) - 2 : below(terms);
        int tag = tag();
        String r = "(" + row + ")";
        String rf = "(" + row + "," + form + ")";
        switch (below(29)) {
            case 0 -> due("columns(" + form + ")", x.columns(form), m.columns(form));
            case 1 -> due("tags()", x.tags(), m.tags());
            case 2 -> due("withdrawn()", x.withdrawn(), m.withdrawn());
            case 3 -> due("tableOf(" + tag + ")", x.tableOf(tag), m.tableOf(tag));
            case 4 -> due("value(" + tag + "," + form + ")", x.value(tag, form), m.value(tag, form));
            case 5 -> due("cost(" + tag + ")", x.cost(tag), m.cost(tag));
            case 6 -> due("trust(" + tag + ")", x.trust(tag), m.trust(tag));
            case 7 -> due("queryLength()", x.queryLength(), m.queryLength());
            case 8 -> due("queryAt(" + tag + ")", x.queryAt(tag), m.queryAt(tag));
            case 9 -> due("answerRows()", x.answerRows(), m.answerRows());
            case 10 -> due("answerColumns()", x.answerColumns(), m.answerColumns());
            case 11 -> due("answerValue" + rf, x.answerValue(row, form), m.answerValue(row, form));
            case 12 -> due("terms" + rf, x.terms(row, form), m.terms(row, form));
            case 13 -> due("coefficient" + rf + term, x.coefficient(row, form, term), m.coefficient(row, form, term));
            case 14 -> due("exponent" + rf + term + "," + tag, x.exponent(row, form, term, tag), m.exponent(row, form, term, tag));
            case 15 -> due("lineage" + r, x.lineage(row), m.lineage(row));
            case 16 -> due("derivations" + r, x.derivations(row), m.derivations(row));
            case 17 -> due("leastCost" + r, x.leastCost(row), m.leastCost(row));
            case 18 -> due("cheapestTags" + r, x.cheapestTags(row), m.cheapestTags(row));
            case 19 -> due("answerTrust" + r, x.answerTrust(row), m.answerTrust(row));
            case 20 -> due("confidence" + r, Float.floatToIntBits(x.confidence(row)), Float.floatToIntBits(m.confidence(row)));
            case 21 -> due("needed" + r, x.needed(row), m.needed(row));
            case 22 -> due("smallestCut" + r, x.smallestCut(row), m.smallestCut(row));
            case 23 -> due("worlds" + r, x.worlds(row), m.worlds(row));
            case 24 -> {
                int tags = oneIn(6) ? below(1 << 17) - 10 : below(1 << 16) & below(1 << 16) & m.tags();
                due("lostIf(" + tags + ")", x.lostIf(tags), m.lostIf(tags));
            }
            case 25 -> due("fault()", x.fault(), m.fault());
            case 26 -> due("printed(" + tag + ")", x.printed(tag), m.printed(tag));
            default -> {
                due("print" + rf, x.print(row, form), m.print(row, form));
                int from = below(8) * below(8);
                for (int i = 0; i < 12 && calls < CALLS && m.printed(from + i) > 0; i++) {
                    due("printed(" + (from + i) + ")", x.printed(from + i), m.printed(from + i));
                }
            }
        }
    }

    /** Calls after the last one that the document speaks of are not looked at. */
    private void due(String call, long got, long want) {
        if (calls >= CALLS) {
            return;
        }
        calls++;
        told.append(call).append(" = ").append(want).append('\n');
        String name = call.substring(0, call.indexOf('('));
        if (want < 0) {
            name += want;
        }
        seen.merge(name, 1, Integer::sum);
        if (got != want && !isOver) {
            isOver = true;
            wrong++;
            System.out.println(told + "but the program answered " + got);
        }
    }
}
