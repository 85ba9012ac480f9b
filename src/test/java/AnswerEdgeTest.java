import java.util.LinkedHashMap;
import java.util.Map;

/** The edges that the promises 14 to 40 name, one test for each sentence. */
public final class AnswerEdgeTest extends Checks {
    private static final int[] NO_TAGS = {-1, 16, 17, 32, 64, LOWEST, HIGHEST};

    /** A call with the number of a row of the answer and arguments that are good for each row. */
    private interface RowCall {
        double on(ProvenanceTables tables, int row);
    }

    private static final Map<String, RowCall> ROW_CALLS = new LinkedHashMap<>();

    static {
        ROW_CALLS.put("25 answerValue", (tables, row) -> tables.answerValue(row, 0));
        ROW_CALLS.put("26 terms", (tables, row) -> tables.terms(row, 0));
        ROW_CALLS.put("27 coefficient", (tables, row) -> tables.coefficient(row, 0, 0));
        ROW_CALLS.put("28 exponent", (tables, row) -> tables.exponent(row, 0, 0, 0));
        ROW_CALLS.put("29 lineage", (tables, row) -> tables.lineage(row));
        ROW_CALLS.put("30 derivations", (tables, row) -> tables.derivations(row));
        ROW_CALLS.put("31 leastCost", (tables, row) -> tables.leastCost(row));
        ROW_CALLS.put("32 cheapestTags", (tables, row) -> tables.cheapestTags(row));
        ROW_CALLS.put("33 answerTrust", (tables, row) -> tables.answerTrust(row));
        ROW_CALLS.put("34 confidence", (tables, row) -> tables.confidence(row));
        ROW_CALLS.put("35 needed", (tables, row) -> tables.needed(row));
        ROW_CALLS.put("36 smallestCut", (tables, row) -> tables.smallestCut(row));
        ROW_CALLS.put("37 worlds", (tables, row) -> tables.worlds(row));
        ROW_CALLS.put("39 print", (tables, row) -> tables.print(row, 0));
    }

    public static void main(String[] args) {
        AnswerEdgeTest t = new AnswerEdgeTest();
        t.columns();
        t.masks();
        t.baseRow();
        t.currentQuery();
        t.answerSize();
        t.answerValue();
        t.noSuchRow();
        t.lastRow();
        t.terms();
        t.coefficient();
        t.exponent();
        t.lineage();
        t.notPresent();
        t.derivations();
        t.leastCost();
        t.cheapestTags();
        t.answerTrust();
        t.tag15();
        t.confidence();
        t.needed();
        t.smallestCut();
        t.worlds();
        t.lostIf();
        t.print();
        t.printed();
        t.finish();
    }

    // ---- base tables and current query

    private void columns() {
        begin("14 columns: table 0 to 3");
        widths(3, 1, 2, 3);
        int[] want = {3, 1, 2, 3};
        for (int table = 0; table < 4; table++) {
            due("columns", x.columns(table), want[table]);
        }
        for (int table : new int[] {-1, 4, 5, LOWEST, HIGHEST}) {
            begin("14 columns: NO_SUCH if there is no such table");
            due("table " + table, x.columns(table), NO_SUCH);
        }
    }

    private void masks() {
        begin("15 tags: bit k stands for the tag k, 0 to 15");
        int all = 0;
        due("none", x.tags(), 0);
        for (int tag = 0; tag < 16; tag++) {
            rows(tag % 4, 12);
            all |= 1 << tag;
            due("tags", x.tags(), all);
        }
        for (int tag = 0; tag < 15; tag++) {
            x.dropRow(tag);
        }
        due("15 alone", x.tags(), 0x8000);
        begin("16 withdrawn: bit k stands for the tag k, 0 to 15");
        sameRows(0, 12, 16);
        due("none", x.withdrawn(), 0);
        all = 0;
        for (int tag = 15; tag >= 0; tag--) {
            x.setWithdrawn(tag, true);
            all |= 1 << tag;
            due("withdrawn", x.withdrawn(), all);
        }
        for (int tag = 0; tag < 15; tag++) {
            x.setWithdrawn(tag, false);
        }
        due("15 alone", x.withdrawn(), 0x8000);
        due("tags, withdrawn or not", x.tags(), 0xffff);
        x.dropRow(15);
        due("dropped", x.withdrawn(), 0);
    }

    private void baseRow() {
        begin("17 tableOf, 18 value, 19 cost, 20 trust: the tags 0 and 15, the tables 0 and 3");
        rows(3, 98);
        sameRows(1, 12, 14);
        rows(0, 76);
        x.setCost(15, 999);
        x.setTrust(15, 0);
        due("tableOf(0)", x.tableOf(0), 3);
        due("tableOf(15)", x.tableOf(15), 0);
        due("value(0, 1)", x.value(0, 1), 8);
        due("value(15, 0)", x.value(15, 0), 7);
        due("cost(0)", x.cost(0), 1);
        due("cost(15)", x.cost(15), 999);
        due("trust(0)", x.trust(0), 100);
        due("trust(15)", x.trust(15), 0);
        begin("17 to 20: NO_SUCH if there is no such base row, at first");
        for (int tag = 0; tag < 16; tag++) {
            noBaseRow(tag);
        }
        begin("17 to 20: NO_SUCH if there is no such base row, though there are 16");
        sameRows(0, 12, 16);
        for (int tag : NO_TAGS) {
            noBaseRow(tag);
        }
        begin("17 to 20: NO_SUCH if there is no such base row, dropped or undone");
        sameRows(0, 12, 3);
        x.setWithdrawn(1, true);
        x.undo();
        x.undo();
        noBaseRow(2);
        x.dropRow(0);
        noBaseRow(0);
        due("tableOf(1)", x.tableOf(1), 0);
        for (int columns = 1; columns <= 3; columns++) {
            begin("18 value: NO_SUCH if there is no such column");
            x.setColumns(1, columns);
            rows(1, 7);
            due("the last column", x.value(0, columns - 1), 7);
            for (int column : new int[] {-1, columns, columns + 1, 4, 32, LOWEST, HIGHEST}) {
                due("column " + column, x.value(0, column), NO_SUCH);
            }
        }
    }

    private void noBaseRow(int tag) {
        due("tableOf(" + tag + ")", x.tableOf(tag), NO_SUCH);
        due("value(" + tag + ", 0)", x.value(tag, 0), NO_SUCH);
        due("cost(" + tag + ")", x.cost(tag), NO_SUCH);
        due("trust(" + tag + ")", x.trust(tag), NO_SUCH);
    }

    private void currentQuery() {
        begin("21 queryLength: 0 if there is none");
        due("at first", x.queryLength(), 0);
        type("A");
        due("with a text", x.queryLength(), 0);
        x.setQuery();
        due("1", x.queryLength(), 1);
        x.undo();
        due("undone", x.queryLength(), 0);
        x.setQuery();
        x.dropQuery();
        due("dropped", x.queryLength(), 0);
        begin("21 queryLength: of 60 characters; 22 queryAt: index of a character, from 0");
        String full = "p0(u(B,u(A,u(A,u(A,u(A,u(A,u(A,u(A,u(A,u(A,u(A,A))))))))))))";
        query(full);
        x.clearText();
        due("60", x.queryLength(), 60);
        for (int index = 0; index < 60; index++) {
            due("queryAt", x.queryAt(index), full.charAt(index));
        }
        for (int index : new int[] {-1, 60, 61, LOWEST, HIGHEST}) {
            due("22 queryAt: NO_SUCH if there is no such character: " + index, x.queryAt(index), NO_SUCH);
        }
        query("A");
        for (int index : new int[] {-1, 1, 2, 59}) {
            due("22 queryAt: NO_SUCH in a shorter query: " + index, x.queryAt(index), NO_SUCH);
        }
        x.dropQuery();
        due("22 queryAt: NO_SUCH without a query", x.queryAt(0), NO_SUCH);
    }

    // ---- the answer

    /** An answer of 32 rows of 4 columns. */
    private void rows32() {
        rows(0, 10, 11, 12, 13);
        rows(1, 10, 11, 12, 13, 14, 15, 16, 17);
        query("j00(A,B)");
    }

    /** One row of 32 terms: each of a to d with each of e to l. */
    private void terms32() {
        widths(1, 1);
        sameRows(0, 1, 4);
        sameRows(1, 1, 8);
        query("p0(j00(A,B))");
    }

    private void answerSize() {
        begin("23 answerRows: present or not, 0 to 32");
        due("without a query", x.answerRows(), 0);
        rows32();
        due("32", x.answerRows(), 32);
        for (int tag = 0; tag < 12; tag++) {
            x.setWithdrawn(tag, true);
        }
        due("none present", x.answerRows(), 32);
        query("D");
        due("no rows", x.answerRows(), 0);
        begin("24 answerColumns: 0 if there is no current query");
        due("at first", x.answerColumns(), 0);
        query("p0(A)");
        due("1, without rows", x.answerColumns(), 1);
        query("j00(A,A)");
        due("4, without rows", x.answerColumns(), 4);
        x.dropQuery();
        due("dropped", x.answerColumns(), 0);
    }

    private void answerValue() {
        begin("25 answerValue: a column of the answer, 0 to 3");
        rows(0, 98);
        rows(1, 97);
        query("j00(A,B)");
        int[] values = {9, 8, 9, 7};
        for (int column = 0; column < 4; column++) {
            due("column " + column, x.answerValue(0, column), values[column]);
        }
        String[] lines = {"p0(A)", "p01(A)", "p010(A)", "p0101(A)"};
        for (int width = 1; width <= 4; width++) {
            begin("25 answerValue: NO_SUCH if there is no such column");
            rows(0, 98);
            query(lines[width - 1]);
            due("the last column", x.answerValue(0, width - 1), width % 2 == 0 ? 8 : 9);
            for (int column : new int[] {-1, width, width + 1, 4, 8, LOWEST, HIGHEST}) {
                due("column " + column, x.answerValue(0, column), NO_SUCH);
                due("no row, column " + column, x.answerValue(1, column), NO_SUCH);
            }
        }
        begin("25 answerValue: the values 0 and 9");
        rows(0, 9, 90);
        query("A");
        due("row 0", x.answerValue(0, 0) * 10 + x.answerValue(0, 1), 9);
        due("row 1", x.answerValue(1, 0) * 10 + x.answerValue(1, 1), 90);
    }

    private void noSuchRow() {
        for (Map.Entry<String, RowCall> entry : ROW_CALLS.entrySet()) {
            RowCall call = entry.getValue();
            begin(entry.getKey() + ": no such row without a query");
            noRows(call, 0);
            begin(entry.getKey() + ": no such row in an answer without rows");
            query("A");
            noRows(call, 0);
            begin(entry.getKey() + ": no such row in an answer of one row");
            rows(0, 12);
            query("A");
            noRows(call, 1);
            begin(entry.getKey() + ": no such row in an answer of 32 rows");
            rows32();
            noRows(call, 32);
            begin(entry.getKey() + ": no such row after the query was dropped");
            rows(0, 12);
            query("A");
            x.dropQuery();
            noRows(call, 0);
            begin(entry.getKey() + ": no such row, that of a row that was withdrawn or not");
            rows(0, 12);
            query("A");
            x.setWithdrawn(0, true);
            noRows(call, 1);
        }
    }

    /** The answer has this many rows. */
    private void noRows(RowCall call, int count) {
        for (int row : new int[] {-1, -2, count, count + 1, count + 32, LOWEST, HIGHEST}) {
            due("row " + row, call.on(x, row), -1.0);
        }
    }

    /** The tag of the row 31 of the answer are d of A and l of B. */
    private void lastRow() {
        double[] want = {1, 1, 1, 0, 0x808, 1, 2, 0x808, 100, 1, 0x808, 8, 1, 2};
        int at = 0;
        for (Map.Entry<String, RowCall> entry : ROW_CALLS.entrySet()) {
            begin(entry.getKey() + ": the row 31");
            rows32();
            due("row 31", entry.getValue().on(x, 31), want[at]);
            at++;
        }
    }

    private static final int[] NO_FORMS = {-1, 5, 6, LOWEST, HIGHEST};

    private void terms() {
        begin("26 terms: form 0 to 4");
        x.setColumns(0, 1);
        rows(0, 1, 1);
        query("u(A,p0(j00(A,A)))");
        int[] want = {5, 5, 3, 3, 2};
        for (int form = 0; form < 5; form++) {
            due("form " + form, x.terms(0, form), want[form]);
        }
        for (int form : NO_FORMS) {
            begin("26 terms: BAD_VALUE if form is out of range");
            rows(0, 12);
            query("A");
            due("form " + form, x.terms(0, form), BAD_VALUE);
            due("NO_SUCH is looked for before", x.terms(1, form), NO_SUCH);
        }
        begin("26 terms: 32");
        terms32();
        for (int form = 0; form < 5; form++) {
            due("form " + form, x.terms(0, form), 32);
        }
    }

    private void coefficient() {
        begin("27 coefficient: form 0 to 4, term from 0, in the order of the terms");
        x.setColumns(0, 1);
        rows(0, 1, 1);
        query("u(A,p0(j00(A,A)))");
        long[][] want = {{1, 2, 1, 1, 1}, {1, 1, 1, 1, 1}, {2, 2, 2}, {1, 1, 1}, {1, 1}};
        for (int form = 0; form < 5; form++) {
            for (int term = 0; term < want[form].length; term++) {
                due("form " + form + ", term " + term, x.coefficient(0, form, term), want[form][term]);
            }
        }
        for (int form = 0; form < 5; form++) {
            begin("27 coefficient: NO_SUCH if there is no such term");
            x.setColumns(0, 1);
            rows(0, 1, 1);
            query("u(A,p0(j00(A,A)))");
            for (int term : new int[] {-1, want[form].length, want[form].length + 1, 32, LOWEST, HIGHEST}) {
                due("form " + form + ", term " + term, x.coefficient(0, form, term), NO_SUCH);
            }
            begin("27 coefficient: NO_SUCH behind 32 terms");
            terms32();
            due("term 31", x.coefficient(0, form, 31), 1);
            due("term 32", x.coefficient(0, form, 32), NO_SUCH);
            due("term -1", x.coefficient(0, form, -1), NO_SUCH);
        }
        for (int form : NO_FORMS) {
            begin("27 coefficient: BAD_VALUE if form is out of range");
            rows(0, 12);
            query("A");
            due("form " + form, x.coefficient(0, form, 0), BAD_VALUE);
            due("before the term", x.coefficient(0, form, 1), BAD_VALUE);
            due("after the row", x.coefficient(1, form, 1), NO_SUCH);
        }
        begin("27 coefficient: a great one");
        x.setColumns(0, 1);
        rows(0, 1);
        query("p0(j00(p0(j00(u(A,A),u(A,A))),j00(u(A,A),u(A,A))))");
        due("16", x.coefficient(0, 0, 0), 16);
        due("16 in form 2", x.coefficient(0, 2, 0), 16);
        begin("27 coefficient: of the greatest power");
        x.setColumns(0, 1);
        rows(0, 1, 1);
        query("j00(p0(j00(j00(A,A),j00(A,A))),p0(j00(j00(A,A),j00(A,A))))");
        due("70", x.coefficient(0, 0, 4), 70);
        due("1", x.coefficient(0, 1, 4), 1);
        due("254", x.coefficient(0, 2, 0), 254);
        due("1", x.coefficient(0, 3, 0), 1);
    }

    private void exponent() {
        begin("28 exponent: tag 0 to 15");
        sameRows(0, 12, 16);
        query("A");
        for (int tag = 0; tag < 16; tag++) {
            due("its own term", x.exponent(0, 0, tag, tag), 1);
            due("0 if the tag does not occur in the term", x.exponent(0, 0, tag, 15 - tag), 0);
        }
        begin("28 exponent: 0 if the tag does not occur, also if no base row has it");
        rows(0, 12);
        query("A");
        for (int tag = 1; tag < 16; tag++) {
            due("tag " + tag, x.exponent(0, 0, 0, tag), 0);
        }
        for (int form = 0; form < 5; form++) {
            begin("28 exponent: form 0 to 4; the exponents are 1 from form 2 on");
            x.setColumns(0, 1);
            rows(0, 1, 1);
            query("p0(j00(j00(A,A),A))");
            due("a in the first term", x.exponent(0, form, 0, 0), form < 2 ? 3 : 1);
            due("b in the first term", x.exponent(0, form, 0, 1), form == 2 || form == 3 ? 1 : 0);
            int terms = new int[] {4, 4, 3, 3, 2}[form];
            due("b in the last term", x.exponent(0, form, terms - 1, 1), form < 2 ? 3 : 1);
            for (int term : new int[] {-1, terms, terms + 1, 32, LOWEST, HIGHEST}) {
                due("NO_SUCH if there is no such term: " + term, x.exponent(0, form, term, 0), NO_SUCH);
            }
            begin("28 exponent: NO_SUCH behind 32 terms");
            terms32();
            due("d in term 31", x.exponent(0, form, 31, 3), 1);
            due("l in term 31", x.exponent(0, form, 31, 11), 1);
            due("term 32", x.exponent(0, form, 32, 3), NO_SUCH);
        }
        for (int form : NO_FORMS) {
            begin("28 exponent: BAD_VALUE if form is out of range");
            rows(0, 12);
            query("A");
            due("form " + form, x.exponent(0, form, 0, 0), BAD_VALUE);
            due("before the term", x.exponent(0, form, 1, 0), BAD_VALUE);
            due("after the row", x.exponent(1, form, 0, 0), NO_SUCH);
        }
        for (int tag : NO_TAGS) {
            begin("28 exponent: BAD_VALUE if tag is out of range");
            rows(0, 12);
            query("A");
            due("tag " + tag, x.exponent(0, 0, 0, tag), BAD_VALUE);
            due("before the term", x.exponent(0, 0, 1, tag), BAD_VALUE);
            due("after the row", x.exponent(1, 0, 0, tag), NO_SUCH);
        }
    }

    private void lineage() {
        begin("29 lineage: bit k stands for the tag k, 0 to 15");
        sameRows(0, 12, 15);
        rows(0, 34);
        query("A");
        due("0 to 14", x.lineage(0), 0x7fff);
        due("15", x.lineage(1), 0x8000);
        due("all", query("p0(u(p00(s0=1(A)),p11(s0=1(A))))") * 0x10000 + x.lineage(0), 0x27fff);
        begin("29 lineage: the tags that occur in the polynomial, withdrawn or not");
        terms32();
        x.setWithdrawn(0, true);
        x.setWithdrawn(11, true);
        due("lineage", x.lineage(0), 0xfff);
        begin("29 lineage: of a high exponent");
        x.setColumns(0, 1);
        rows(0, 1);
        query("j00(p0(j00(j00(A,A),j00(A,A))),p0(j00(j00(A,A),j00(A,A))))");
        due("a^8", x.lineage(0), 1);
    }

    // ---- evaluation

    private void notPresent() {
        double[] want = {1, 1, 1, 1, 3, 0, NONE, NONE, NONE, 0.0, NONE, NONE, 1, 2};
        int at = 0;
        for (Map.Entry<String, RowCall> entry : ROW_CALLS.entrySet()) {
            for (int withdrawn = 1; withdrawn <= 3; withdrawn++) {
                begin(entry.getKey() + ": if the row is not present");
                rows(0, 12);
                rows(1, 12);
                query("j00(A,B)");
                for (int tag = 0; tag < 2; tag++) {
                    x.setWithdrawn(tag, (withdrawn >> tag & 1) != 0);
                }
                due("row 0", entry.getValue().on(x, 0), want[at]);
                due("no such row, nor present", entry.getValue().on(x, 1), -1.0);
            }
            at++;
        }
    }

    /** One row of a + b + c; d to f are of another value. */
    private void threeTags() {
        rows(0, 12, 12, 12, 34, 34, 34);
        query("A");
    }

    private void derivations() {
        begin("30 derivations: the sum of the coefficients of the available terms (0 if the row is not present)");
        rows(0, 12, 12);
        query("u(A,u(A,A))");
        due("all", x.derivations(0), 6);
        x.setWithdrawn(0, true);
        due("without a", x.derivations(0), 3);
        x.setWithdrawn(1, true);
        due("not present", x.derivations(0), 0);
        begin("30 derivations: of all 32 terms");
        terms32();
        due("32", x.derivations(0), 32);
        x.setWithdrawn(3, true);
        due("24", x.derivations(0), 24);
        x.setWithdrawn(11, true);
        due("21", x.derivations(0), 21);
    }

    private void leastCost() {
        begin("31 leastCost: 0 and the greatest");
        threeTags();
        x.setCost(1, 0);
        due("0", x.leastCost(0), 0);
        for (int tag = 0; tag < 3; tag++) {
            x.setCost(tag, 999);
        }
        due("999", x.leastCost(0), 999);
        x.setCost(2, 998);
        due("the last term", x.leastCost(0), 998);
        x.setCost(0, 997);
        due("the first term", x.leastCost(0), 997);
        x.setWithdrawn(0, true);
        due("the first available one", x.leastCost(0), 998);
        begin("31 leastCost: in the last of 32 terms");
        terms32();
        for (int tag = 0; tag < 12; tag++) {
            x.setCost(tag, 10);
        }
        x.setCost(3, 9);
        x.setCost(11, 9);
        due("18", x.leastCost(0), 18);
        due("32 cheapestTags: in the last of 32 terms", x.cheapestTags(0), 0x808);
    }

    private void cheapestTags() {
        begin("32 cheapestTags: of several, the first one in the order of the terms");
        threeTags();
        due("all cost the same", x.cheapestTags(0), 1);
        x.setCost(0, 2);
        due("b and c", x.cheapestTags(0), 2);
        x.setCost(1, 2);
        due("c", x.cheapestTags(0), 4);
        x.setCost(2, 2);
        due("all cost the same", x.cheapestTags(0), 1);
        x.setWithdrawn(0, true);
        due("the first available one", x.cheapestTags(0), 2);
        begin("32 cheapestTags: ab costs as much as c, a^2 as much as a");
        widths(1, 1, 1);
        rows(0, 1);
        rows(1, 1);
        rows(2, 1);
        query("u(C,p0(j00(A,B)))");
        x.setCost(2, 2);
        due("ab is before c", x.cheapestTags(0), 3);
        query("u(B,p0(j00(A,A)))");
        x.setCost(1, 2);
        due("a^2 is before b", x.cheapestTags(0), 1);
        x.setCost(1, 1);
        due("b is less than a^2", x.cheapestTags(0), 2);
        begin("32 cheapestTags: the tag 15");
        sameRows(1, 12, 15);
        rows(0, 12);
        query("A");
        due("p", x.cheapestTags(0), 0x8000);
    }

    private void answerTrust() {
        begin("33 answerTrust: the greatest trust of an available term, 0 to 100");
        threeTags();
        due("100", x.answerTrust(0), 100);
        for (int tag = 0; tag < 3; tag++) {
            x.setTrust(tag, 0);
        }
        due("0, though present", x.answerTrust(0), 0);
        x.setTrust(2, 1);
        due("the last term", x.answerTrust(0), 1);
        x.setTrust(0, 3);
        due("the first term", x.answerTrust(0), 3);
        x.setTrust(1, 2);
        x.setWithdrawn(0, true);
        due("available ones alone", x.answerTrust(0), 2);
    }

    private void tag15() {
        begin("33 answerTrust, 34 confidence, 31 leastCost: the tag 15");
        sameRows(1, 12, 15);
        rows(0, 12);
        query("A");
        due("answerTrust at first", x.answerTrust(0), 100);
        due("confidence at first", x.confidence(0), 1.0f);
        x.setTrust(15, 55);
        x.setCost(15, 44);
        due("answerTrust", x.answerTrust(0), 55);
        due("confidence", x.confidence(0), 55 / 100.0f);
        due("leastCost", x.leastCost(0), 44);
        due("derivations", x.derivations(0), 1);
        due("worlds", x.worlds(0), 1);
        due("lostIf", x.lostIf(0x8000), 1);
        due("setWithdrawn", x.setWithdrawn(15, true), 0);
        due("leastCost", x.leastCost(0), NONE);
    }

    private void confidence() {
        begin("34 confidence: the greatest confidence of an available term");
        threeTags();
        due("1.0f", x.confidence(0), 1.0f);
        for (int tag = 0; tag < 3; tag++) {
            x.setTrust(tag, 0);
        }
        due("0.0f, though present", x.confidence(0), 0.0f);
        due("33 answerTrust, though its confidence is 0.0f", x.answerTrust(0), 0);
        x.setTrust(2, 7);
        due("the last term", x.confidence(0), 7 / 100.0f);
        x.setTrust(0, 9);
        due("the first term", x.confidence(0), 9 / 100.0f);
        x.setTrust(1, 8);
        x.setWithdrawn(0, true);
        due("available ones alone", x.confidence(0), 8 / 100.0f);
        begin("34 confidence: 0.0f if the row is not present; -1.0f if there is no such row");
        due("no such row", x.confidence(0), -1.0f);
        rows(0, 12);
        query("A");
        x.setWithdrawn(0, true);
        due("not present", x.confidence(0), 0.0f);
        due("no such row", x.confidence(1), -1.0f);
        confidenceOrder();
    }

    /** Each of the other orders gives another float for some of these trusts. */
    private void confidenceOrder() {
        begin("34 confidence: in ascending order of the tags");
        widths(1, 1, 1, 1);
        for (int table = 3; table >= 0; table--) {
            rows(table, 1);
        }
        query("j00(j00(A,B),j00(C,D))");
        int found = 0;
        for (int trust = 1; trust <= 40; trust++) {
            int[] trusts = {trust, 100 - trust, 2 * trust, 97 - 2 * trust};
            for (int tag = 0; tag < 4; tag++) {
                x.setTrust(tag, trusts[tag]);
            }
            float ascending = 1.0f;
            float descending = 1.0f;
            for (int tag = 0; tag < 4; tag++) {
                ascending = ascending * ((float) trusts[tag] / 100.0f);
                descending = descending * ((float) trusts[3 - tag] / 100.0f);
            }
            found += ascending != descending ? 1 : 0;
            due("trusts from " + trust, x.confidence(0), ascending);
        }
        due("another order would be seen", found > 5 ? 1 : 0, 1);
        begin("34 confidence: one after the other, as often as the exponent says");
        widths(1, 1);
        rows(0, 1);
        rows(1, 1);
        query("j00(j00(A,A),j00(B,B))");
        found = 0;
        for (int trust = 1; trust <= 40; trust++) {
            x.setTrust(0, trust);
            x.setTrust(1, 99 - trust);
            float a = (float) trust / 100.0f;
            float b = (float) (99 - trust) / 100.0f;
            float squares = (a * a) * (b * b);
            found += 1.0f * a * a * b * b != squares ? 1 : 0;
            due("trust " + trust, x.confidence(0), 1.0f * a * a * b * b);
        }
        due("a product of powers would be seen", found > 5 ? 1 : 0, 1);
    }

    // ---- withdrawing base rows

    private void needed() {
        begin("35 needed: the tags that occur in all available terms");
        widths(1, 1);
        rows(0, 1);
        rows(1, 1, 1);
        query("j00(A,B)");
        due("a of ab + ac", x.needed(0), 1);
        x.setWithdrawn(1, true);
        due("a and c of ac", x.needed(0), 5);
        begin("35 needed: none of several");
        threeTags();
        due("a + b + c", x.needed(0), 0);
        x.setWithdrawn(2, true);
        due("a + b", x.needed(0), 0);
        x.setWithdrawn(0, true);
        due("b", x.needed(0), 2);
        x.setWithdrawn(1, true);
        due("NONE", x.needed(0), NONE);
        begin("35 needed: the tag 15");
        sameRows(1, 12, 15);
        rows(0, 12);
        query("A");
        due("p", x.needed(0), 0x8000);
    }

    private void smallestCut() {
        begin("36 smallestCut: of several, the one whose bit mask is the least number");
        widths(1, 1, 1, 1);
        for (int table = 3; table >= 0; table--) {
            rows(table, 1);
        }
        query("j00(j00(A,B),j00(C,D))");
        due("one of abcd", x.smallestCut(0), 1);
        query("u(p0(j00(C,D)),p0(j00(A,B)))");
        prints(0, 0, "ab+cd");
        due("two of ab + cd", x.smallestCut(0), 5);
        query("u(p0(j00(A,B)),u(p0(j00(A,C)),p0(j00(A,D))))");
        prints(0, 0, "ad+bd+cd");
        due("d is the smallest though its bit mask is not the least", x.smallestCut(0), 8);
        begin("36 smallestCut: the least bit mask, though another set has the least tag");
        widths(1, 1);
        rows(0, 1);
        rows(1, 1, 1);
        rows(0, 1);
        query("j00(A,B)");
        prints(0, 0, "ab+ac+bd+cd");
        due("b and c, not a and d", x.smallestCut(0), 6);
        begin("36 smallestCut: withdrawn, too");
        threeTags();
        due("all", x.smallestCut(0), 7);
        x.setWithdrawn(1, true);
        due("without one that is withdrawn now", x.smallestCut(0), 5);
        x.setWithdrawn(0, true);
        due("one", x.smallestCut(0), 4);
        x.setWithdrawn(2, true);
        due("NONE", x.smallestCut(0), NONE);
        begin("36 smallestCut: all 16 tags");
        sameRows(0, 12, 16);
        query("A");
        due("all", x.smallestCut(0), 0xffff);
        begin("36 smallestCut: the tag 15");
        sameRows(1, 12, 15);
        rows(0, 12);
        query("A");
        due("p", x.smallestCut(0), 0x8000);
        begin("36 smallestCut: of 32 terms");
        terms32();
        due("a to d, not e to l", x.smallestCut(0), 0xf);
        begin("36 smallestCut: of 32 terms, the other way round");
        widths(1, 1);
        sameRows(1, 1, 8);
        sameRows(0, 1, 4);
        query("p0(j00(A,B))");
        due("i to l, not a to h", x.smallestCut(0), 0xf00);
        begin("36 smallestCut: of 28 terms, all pairs of 7 and 21 pairs of different ones");
        widths(1, 1);
        sameRows(0, 1, 7);
        query("p0(j00(A,A))");
        due("all squares", x.smallestCut(0), 0x7f);
    }

    private void worlds() {
        begin("37 worlds: of one tag, and of all 16");
        rows(0, 12);
        query("A");
        due("one", x.worlds(0), 1);
        sameRows(0, 12, 15);
        due("all but the empty set", x.worlds(0), 65535);
        begin("37 worlds: Which base rows are withdrawn now does not matter");
        threeTags();
        due("a + b + c", x.worlds(0), 7);
        for (int tag = 0; tag < 3; tag++) {
            x.setWithdrawn(tag, true);
            due("withdrawn", x.worlds(0), 7);
        }
        begin("37 worlds: subsets of the lineage alone");
        widths(1, 1, 1);
        rows(0, 1);
        rows(1, 1);
        rows(2, 2, 1);
        query("j00(A,C)");
        due("ad, not b and c", x.worlds(0), 1);
        query("u(p0(j00(A,B)),p0(j00(A,C)))");
        prints(0, 0, "ab+ad");
        due("ab, ad, abd", x.worlds(0), 3);
        query("p0(j00(j00(A,B),C))");
        due("abd", x.worlds(0), 1);
        begin("37 worlds: of terms without a tag in common");
        widths(1, 1, 1, 1);
        for (int table = 0; table < 4; table++) {
            rows(table, 1);
        }
        query("u(p0(j00(A,B)),p0(j00(C,D)))");
        prints(0, 0, "ab+cd");
        due("4 + 4 - 1", x.worlds(0), 7);
        query("u(p0(j00(A,C)),p0(j00(B,D)))");
        prints(0, 0, "ac+bd");
        due("4 + 4 - 1", x.worlds(0), 7);
        query("u(p0(j00(j00(A,B),C)),D)");
        prints(0, 0, "abc+d");
        due("8 + 1", x.worlds(0), 9);
        begin("37 worlds: of 32 terms");
        terms32();
        due("15 * 255", x.worlds(0), 3825);
    }

    private void lostIf() {
        begin("38 lostIf: BAD_VALUE if tags is below 0");
        sameRows(0, 12, 16);
        query("A");
        for (int tags : new int[] {-1, -2, LOWEST, LOWEST + 1, -65536}) {
            due("tags " + tags, x.lostIf(tags), BAD_VALUE);
        }
        begin("38 lostIf: BAD_VALUE if tags contains a tag that no base row has: there are 16");
        sameRows(0, 12, 16);
        query("A");
        due("all", x.lostIf(0xffff), 1);
        due("all but one", x.lostIf(0xfffe), 0);
        for (int tags : new int[] {0x10000, 0x10001, 0x1ffff, 1 << 30, HIGHEST}) {
            due("tags " + tags, x.lostIf(tags), BAD_VALUE);
        }
        begin("38 lostIf: BAD_VALUE if tags contains a tag that no base row has");
        rows(0, 12, 13, 14);
        query("A");
        x.dropRow(1);
        due("5", x.lostIf(5), 2);
        for (int tags : new int[] {2, 3, 7, 8, 13, 0x8000, 0x8001}) {
            due("tags " + tags, x.lostIf(tags), BAD_VALUE);
        }
        begin("38 lostIf: without base rows");
        due("0", x.lostIf(0), 0);
        due("1", x.lostIf(1), BAD_VALUE);
        begin("38 lostIf: rows that are present and would not be present");
        threeTags();
        due("none", x.lostIf(0), 0);
        due("a and b", x.lostIf(3), 0);
        due("a to c", x.lostIf(7), 1);
        due("all", x.lostIf(63), 2);
        x.setWithdrawn(2, true);
        due("a and b, too", x.lostIf(3), 1);
        due("one that is withdrawn now", x.lostIf(4), 0);
        x.setWithdrawn(0, true);
        x.setWithdrawn(1, true);
        due("all, but one row was not present before", x.lostIf(63), 1);
        due("not present before", x.lostIf(7), 0);
        due("withdrawn does not change", x.withdrawn(), 7);
        begin("38 lostIf: all 32 rows");
        rows32();
        due("a to d", x.lostIf(15), 32);
        due("d", x.lostIf(8), 8);
        due("l", x.lostIf(0x800), 4);
    }

    // ---- printing

    private void print() {
        begin("39 print: what was printed before is replaced, also by less");
        rows(0, 12, 12, 34);
        query("A");
        prints(0, 0, "a+b");
        prints(1, 0, "c");
        due("printed(1)", x.printed(1), NO_SUCH);
        prints(0, 0, "a+b");
        begin("39 print: its coefficient in decimal digits if it is above 1");
        x.setColumns(0, 1);
        rows(0, 1);
        String line = "A";
        for (int count = 1; count <= 12; count++) {
            query(line);
            prints(0, 0, count > 1 ? count + "a" : "a");
            prints(0, 1, "a");
            line = "u(A," + line + ")";
        }
        begin("39 print: a coefficient of 0 within its digits");
        x.setColumns(0, 1);
        rows(0, 1);
        query("j00(u(A,A),u(u(A,A),u(A,u(A,A))))");
        prints(0, 0, "10a^2");
        query("p0(j00(u(u(A,A),u(A,A)),j00(u(A,u(A,A)),u(A,u(A,A)))))");
        prints(0, 0, "36a^3");
        begin("39 print: three digits");
        x.setColumns(0, 1);
        rows(0, 1, 1);
        query("j00(p0(j00(j00(A,A),j00(A,A))),p0(j00(j00(A,A),j00(A,A))))");
        prints(0, 2, "254ab+a+b");
        begin("39 print: each followed by ^ and its exponent if it is above 1");
        x.setColumns(0, 1);
        rows(0, 1);
        String[] powers = {"A", "j00(A,A)", "j00(j00(A,A),A)", "j00(j00(A,A),j00(A,A))"};
        for (int power = 1; power <= 4; power++) {
            query(powers[power - 1]);
            prints(0, 0, power > 1 ? "a^" + power : "a");
            prints(0, 2, "a");
        }
        begin("39 print: followed by its tags in ascending order, up to p");
        widths(1, 1);
        sameRows(1, 1, 1);
        sameRows(0, 2, 14);
        rows(1, 1);
        query("j00(B,B)");
        prints(0, 0, "a^2+2ap+p^2");
        begin("39 print: the tag 0 as a and so on up to p");
        for (int tag = 0; tag < 16; tag++) {
            rows(0, 10 + tag);
        }
        query("A");
        for (int tag = 0; tag < 16; tag++) {
            prints(tag, 0, "abcdefghijklmnop".substring(tag, tag + 1));
        }
        printRefused();
    }

    private void printRefused() {
        begin("39 print: form 0 to 4");
        x.setColumns(0, 1);
        rows(0, 1, 1);
        query("u(u(A,A),p0(j00(A,A)))");
        String[] forms = {"a^2+2ab+2a+b^2+2b", "a^2+ab+a+b^2+b", "2ab+3a+3b", "ab+a+b", "a+b"};
        for (int form = 0; form < 5; form++) {
            prints(0, form, forms[form]);
        }
        for (int form : NO_FORMS) {
            begin("39 print: BAD_VALUE if form is out of range; what was printed stays");
            rows(0, 12, 12);
            query("A");
            x.print(0, 0);
            due("form " + form, x.print(0, form), BAD_VALUE);
            due("NO_SUCH is looked for before", x.print(1, form), NO_SUCH);
            due("what was printed", paper(), "a+b");
        }
        begin("39 print: NO_SUCH if there is no such row; what was printed stays");
        rows(0, 12, 12);
        query("A");
        x.print(0, 0);
        due("row 1", x.print(1, 0), NO_SUCH);
        due("row -1", x.print(-1, 0), NO_SUCH);
        due("what was printed", paper(), "a+b");
        begin("39 print: the longest, of 32 terms");
        terms32();
        StringBuilder want = new StringBuilder();
        for (char first = 'a'; first <= 'd'; first++) {
            for (char second = 'e'; second <= 'l'; second++) {
                want.append(want.length() > 0 ? "+" : "").append(first).append(second);
            }
        }
        prints(0, 0, want.toString());
        begin("39 print: This is not an action");
        rows(0, 12);
        query("A");
        x.print(0, 0);
        due("undo", x.undo(), 1);
        due("the query is gone", x.queryLength(), 0);
    }

    private void printed() {
        begin("40 printed: NO_SUCH also if nothing was printed yet");
        rows(0, 12, 12);
        query("A");
        for (int index : new int[] {-1, 0, 1, LOWEST, HIGHEST}) {
            due("index " + index, x.printed(index), NO_SUCH);
        }
        due("a refused print", x.print(1, 0), NO_SUCH);
        due("nothing is printed", x.printed(0), NO_SUCH);
        begin("40 printed: index of a character, from 0");
        rows(0, 12, 12);
        query("A");
        x.print(0, 0);
        due("0", x.printed(0), 'a');
        due("1", x.printed(1), '+');
        due("2", x.printed(2), 'b');
        for (int index : new int[] {-1, 3, 4, 1000, 1024, 100000, LOWEST, HIGHEST}) {
            due("NO_SUCH if there is no such character: " + index, x.printed(index), NO_SUCH);
        }
        begin("40 printed: stays when the answer changes");
        rows(0, 12, 12);
        query("A");
        x.print(0, 0);
        x.dropRow(0);
        due("after dropRow", paper(), "a+b");
        x.dropQuery();
        due("after dropQuery", paper(), "a+b");
        x.undo();
        x.clearText();
        due("after undo and clearText", paper(), "a+b");
    }
}
