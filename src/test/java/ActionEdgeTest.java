/** The edges that the promises 1 to 13 name, one test for each sentence. */
public final class ActionEdgeTest extends Checks {
    private static final int[] NO_TABLES = {-1, 4, 5, 32, LOWEST, HIGHEST};
    private static final int[] NO_TAGS = {-1, 16, 17, 32, 64, LOWEST, HIGHEST};

    public static void main(String[] args) {
        ActionEdgeTest t = new ActionEdgeTest();
        t.newObject();
        t.setColumns();
        t.setColumnsNotPossible();
        t.addRow();
        t.addRowTooMany();
        t.dropRow();
        t.setCost();
        t.setTrust();
        t.setWithdrawn();
        t.setQuery();
        t.setQueryRefused();
        t.dropQuery();
        t.append();
        t.clearText();
        t.fault();
        t.undo();
        t.finish();
    }

    private void newObject() {
        begin("1: without base rows");
        due("tags", x.tags(), 0);
        due("withdrawn", x.withdrawn(), 0);
        for (int tag = 0; tag < 16; tag++) {
            due("tableOf", x.tableOf(tag), NO_SUCH);
        }
        begin("1: without a current query");
        due("queryLength", x.queryLength(), 0);
        due("queryAt", x.queryAt(0), NO_SUCH);
        due("answerRows", x.answerRows(), 0);
        due("answerColumns", x.answerColumns(), 0);
        due("dropQuery", x.dropQuery(), NOT_POSSIBLE);
        begin("1: with an empty text");
        due("fault", x.fault(), 0);
        due("append", x.append('A'), 1);
        due("clearText of another", new ProvenanceTables().clearText(), 0);
        begin("1: an empty printed polynomial");
        due("printed", x.printed(0), NO_SUCH);
        begin("1: an empty history");
        due("undo", x.undo(), NONE);
        due("undo again", x.undo(), NONE);
    }

    private void setColumns() {
        for (int table = 0; table < 4; table++) {
            begin("2 setColumns: table 0 to 3, columns 1 to 3; returns the previous number of columns");
            due("1", x.setColumns(table, 1), 2);
            due("columns", x.columns(table), 1);
            due("3", x.setColumns(table, 3), 1);
            due("columns", x.columns(table), 3);
            due("2", x.setColumns(table, 2), 3);
            due("columns", x.columns(table), 2);
            for (int columns : new int[] {0, 4, -1, 5, LOWEST, HIGHEST}) {
                begin("2 setColumns: BAD_VALUE if columns is out of range");
                due("columns " + columns, x.setColumns(table, columns), BAD_VALUE);
                due("columns", x.columns(table), 2);
                due("undo", x.undo(), NONE);
            }
        }
        for (int table : NO_TABLES) {
            begin("2 setColumns: NO_SUCH if there is no such table");
            due("table " + table, x.setColumns(table, 3), NO_SUCH);
            due("table " + table + ", columns out of range", x.setColumns(table, 0), NO_SUCH);
            due("undo", x.undo(), NONE);
        }
    }

    private void setColumnsNotPossible() {
        for (int table = 0; table < 4; table++) {
            for (int columns = 1; columns <= 3; columns++) {
                begin("2 setColumns: NOT_POSSIBLE if the table has a base row");
                rows(table, 12);
                due("columns " + columns, x.setColumns(table, columns), NOT_POSSIBLE);
                due("another table", x.setColumns(3 - table, columns), 2);
                x.dropRow(0);
                due("without the row", x.setColumns(table, columns), 2);
                begin("2 setColumns: NOT_POSSIBLE if the table has a base row, be it the 16th");
                sameRows(3 - table, 11, 15);
                rows(table, 12);
                due("columns " + columns, x.setColumns(table, columns), NOT_POSSIBLE);
                begin("2 setColumns: NOT_POSSIBLE if the table occurs in the current query");
                String name = "ABCD".substring(table, table + 1);
                for (String line : new String[] {"!", "p0(!)", "j00(!,!)", "u(!,!)", "s0=0(s0~0(!))"}) {
                    due("setQuery", query(line.replace("!", name)), 0);
                    due("in the query", x.setColumns(table, columns), NOT_POSSIBLE);
                    due("another table", x.setColumns(3 - table, 2), 2);
                }
                x.dropQuery();
                due("after dropQuery", x.setColumns(table, columns), 2);
            }
        }
        begin("2 setColumns: occurs in the current query, at its end, with a table before");
        query("u(A,u(B,u(C,D)))");
        for (int table = 0; table < 4; table++) {
            due("in the query", x.setColumns(table, 2), NOT_POSSIBLE);
        }
        begin("2 setColumns: in the text alone");
        type("A");
        due("possible", x.setColumns(0, 3), 2);
        due("BAD_VALUE is looked for before NOT_POSSIBLE", query("A") * 10 + x.setColumns(0, 0), BAD_VALUE);
    }

    // ---- addRow and dropRow

    private void addRow() {
        int[] greatest = {9, 99, 999};
        for (int columns = 1; columns <= 3; columns++) {
            begin("3 addRow: as many digits as the table has columns (leading zeros count)");
            x.setColumns(3, columns);
            due("0", x.addRow(3, 0), 0);
            due("the greatest", x.addRow(3, greatest[columns - 1]), 1);
            due("1", x.addRow(3, 1), 2);
            for (int column = 0; column < columns; column++) {
                due("0", x.value(0, column), 0);
                due("9", x.value(1, column), 9);
                due("the value in the last column is the lowest digit", x.value(2, column), column == columns - 1 ? 1 : 0);
            }
            begin("3 addRow: BAD_VALUE if values has more digits than the table has columns");
            x.setColumns(3, columns);
            for (int values : new int[] {greatest[columns - 1] + 1, 1000, 12345, 1000000000, HIGHEST}) {
                due("values " + values, x.addRow(3, values), BAD_VALUE);
            }
            begin("3 addRow: BAD_VALUE if values is below 0");
            x.setColumns(3, columns);
            for (int values : new int[] {-1, -9, -10, LOWEST, LOWEST + 1}) {
                due("values " + values, x.addRow(3, values), BAD_VALUE);
            }
            due("tags", x.tags(), 0);
        }
        begin("3 addRow: digits for the columns that the table has now");
        due("two columns", x.addRow(0, 100), BAD_VALUE);
        x.setColumns(0, 3);
        due("three columns", x.addRow(0, 100), 0);
        for (int table : NO_TABLES) {
            begin("3 addRow: NO_SUCH if there is no such table");
            due("table " + table, x.addRow(table, 12), NO_SUCH);
            due("table " + table + ", values below 0", x.addRow(table, -1), NO_SUCH);
        }
        begin("3 addRow: returns the tag of the new base row, 0 to 15");
        for (int tag = 0; tag < 16; tag++) {
            due("addRow", x.addRow(tag % 4, 12), tag);
        }
    }

    private void addRowTooMany() {
        begin("3 addRow: TOO_MANY if there are 16 base rows");
        sameRows(0, 11, 15);
        due("a 16th", x.addRow(1, 22), 15);
        due("a 17th", x.addRow(1, 22), TOO_MANY);
        due("a 17th of a bad value", x.addRow(1, 100), BAD_VALUE);
        due("a 17th in no table", x.addRow(4, 22), NO_SUCH);
        x.dropRow(3);
        due("a 16th again", x.addRow(1, 22), 3);
        due("a 17th again", x.addRow(1, 22), TOO_MANY);
        begin("3 addRow: TOO_MANY if the current query would be too large: 36 terms");
        x.setColumns(0, 1);
        sameRows(0, 1, 7);
        due("28 terms", query("p0(j00(A,A))"), 1);
        due("an eighth", x.addRow(0, 1), TOO_MANY);
        due("tags", x.tags(), 0x7f);
        due("terms", x.terms(0, 0), 28);
        due("a bad value is looked for before", x.addRow(0, 10), BAD_VALUE);
        due("another value", x.addRow(0, 0), 7);
        due("its row is the first", x.lineage(0), 0x80);
        begin("3 addRow: TOO_MANY, but for the current query alone");
        x.setColumns(0, 1);
        sameRows(0, 1, 7);
        type("p0(j00(A,A))");
        due("only in the text", x.addRow(0, 1), 7);
        due("then no query", x.setQuery(), TOO_MANY);
        begin("3 addRow: the answer is that of the tables with the new base row");
        query("A");
        due("answerRows", x.answerRows(), 0);
        x.addRow(0, 12);
        x.addRow(1, 12);
        x.addRow(0, 12);
        shows("12:a+c");
    }

    private void dropRow() {
        begin("4 dropRow: returns the number of base rows that are left, 15 to 0");
        sameRows(2, 12, 16);
        for (int left = 15; left >= 0; left--) {
            due("dropRow", x.dropRow(left % 2 == 0 ? left / 2 : 15 - left / 2), left);
        }
        due("tags", x.tags(), 0);
        begin("4 dropRow: NO_SUCH if there is no such base row");
        for (int tag = 0; tag < 16; tag++) {
            due("none at first", x.dropRow(tag), NO_SUCH);
        }
        sameRows(2, 12, 16);
        for (int tag : NO_TAGS) {
            due("tag " + tag, x.dropRow(tag), NO_SUCH);
        }
        due("tags", x.tags(), 0xffff);
        due("drop 15", x.dropRow(15), 15);
        due("15 again", x.dropRow(15), NO_SUCH);
        begin("4 dropRow: removes a base row from the answer, too");
        rows(0, 12, 12, 34);
        query("A");
        x.dropRow(0);
        shows("12:b 34:c");
        x.dropRow(2);
        shows("12:b");
        x.dropRow(1);
        shows("");
        begin("4 dropRow: a withdrawn one");
        rows(0, 12);
        x.setWithdrawn(0, true);
        due("dropRow", x.dropRow(0), 0);
        due("withdrawn", x.withdrawn(), 0);
        due("undo", x.undo(), 2);
        due("withdrawn again", x.withdrawn(), 1);
    }

    // ---- costs, trusts and withdrawing

    private void setCost() {
        begin("5 setCost: cost 0 to 999; returns the previous cost");
        sameRows(0, 12, 16);
        for (int tag : new int[] {0, 15}) {
            due("0", x.setCost(tag, 0), 1);
            due("cost", x.cost(tag), 0);
            due("999", x.setCost(tag, 999), 0);
            due("cost", x.cost(tag), 999);
            due("1", x.setCost(tag, 1), 999);
        }
        begin("5 setCost: BAD_VALUE if cost is out of range");
        rows(0, 12);
        for (int cost : new int[] {-1, 1000, 1001, LOWEST, HIGHEST}) {
            due("cost " + cost, x.setCost(0, cost), BAD_VALUE);
        }
        due("cost", x.cost(0), 1);
        begin("5 setCost: NO_SUCH if there is no such base row");
        due("none at first", x.setCost(0, 5), NO_SUCH);
        rows(0, 12, 12);
        x.dropRow(0);
        due("a dropped one", x.setCost(0, 5), NO_SUCH);
        due("the next", x.setCost(2, 5), NO_SUCH);
        due("cost out of range", x.setCost(0, 1000), NO_SUCH);
        for (int tag : NO_TAGS) {
            due("tag " + tag, x.setCost(tag, 5), NO_SUCH);
        }
        due("cost", x.cost(1), 1);
    }

    private void setTrust() {
        begin("6 setTrust: trust 0 to 100; returns the previous trust");
        sameRows(0, 12, 16);
        for (int tag : new int[] {0, 15}) {
            due("0", x.setTrust(tag, 0), 100);
            due("trust", x.trust(tag), 0);
            due("100", x.setTrust(tag, 100), 0);
            due("trust", x.trust(tag), 100);
            due("1", x.setTrust(tag, 1), 100);
        }
        begin("6 setTrust: BAD_VALUE if trust is out of range");
        rows(0, 12);
        for (int trust : new int[] {-1, 101, 102, LOWEST, HIGHEST}) {
            due("trust " + trust, x.setTrust(0, trust), BAD_VALUE);
        }
        due("trust", x.trust(0), 100);
        begin("6 setTrust: NO_SUCH if there is no such base row");
        due("none at first", x.setTrust(0, 5), NO_SUCH);
        rows(0, 12, 12);
        x.dropRow(0);
        due("a dropped one", x.setTrust(0, 5), NO_SUCH);
        due("the next", x.setTrust(2, 5), NO_SUCH);
        due("trust out of range", x.setTrust(0, 101), NO_SUCH);
        for (int tag : NO_TAGS) {
            due("tag " + tag, x.setTrust(tag, 5), NO_SUCH);
        }
        due("trust", x.trust(1), 100);
    }

    private void setWithdrawn() {
        begin("7 setWithdrawn: returns the number of rows of the answer that are present afterwards");
        for (int tag = 0; tag < 16; tag++) {
            rows(0, tag + 10);
        }
        due("without a query", x.setWithdrawn(3, false), 0);
        query("A");
        for (int tag = 0; tag < 16; tag++) {
            due("withdrawn one by one", x.setWithdrawn(tag, true), 15 - tag);
        }
        due("withdrawn again", x.setWithdrawn(15, true), 0);
        due("withdrawn", x.withdrawn(), 0xffff);
        for (int tag = 15; tag >= 0; tag--) {
            due("no longer withdrawn", x.setWithdrawn(tag, false), 16 - tag);
        }
        due("no longer again", x.setWithdrawn(15, false), 16);
        due("withdrawn", x.withdrawn(), 0);
        begin("7 setWithdrawn: of all 32 rows of the answer");
        rows(0, 10, 11, 12, 13);
        rows(1, 10, 11, 12, 13, 14, 15, 16, 17);
        query("j00(A,B)");
        due("all", x.setWithdrawn(0, false), 32);
        due("without a row of A", x.setWithdrawn(3, true), 24);
        due("without a row of B", x.setWithdrawn(11, true), 21);
        begin("7 setWithdrawn: NO_SUCH if there is no such base row");
        due("none at first", x.setWithdrawn(0, true), NO_SUCH);
        rows(0, 12, 12);
        x.dropRow(0);
        due("a dropped one", x.setWithdrawn(0, true), NO_SUCH);
        due("the next", x.setWithdrawn(2, true), NO_SUCH);
        for (int tag : NO_TAGS) {
            due("tag " + tag, x.setWithdrawn(tag, true), NO_SUCH);
            due("tag " + tag, x.setWithdrawn(tag, false), NO_SUCH);
        }
        due("withdrawn", x.withdrawn(), 0);
    }

    // ---- the current query

    private void setQuery() {
        begin("8 setQuery: returns the number of rows of the answer, 0 to 32");
        rows(0, 10, 11, 12, 13);
        rows(1, 10, 11, 12, 13, 14, 15, 16, 17);
        due("none", query("C"), 0);
        due("one", query("s1=0(A)"), 1);
        due("32", query("j00(A,B)"), 32);
        for (int tag = 0; tag < 12; tag++) {
            x.setWithdrawn(tag, true);
        }
        due("present or not", x.setQuery(), 32);
        begin("8 setQuery: The text does not change");
        rows(0, 12);
        due("setQuery", query("p0(A)"), 1);
        due("again", x.setQuery(), 1);
        due("fault", x.fault(), NONE);
        due("append", x.append(')'), 6);
        due("the current query does not change with the text", x.queryLength(), 5);
        due("setQuery", x.setQuery(), BAD_TEXT);
        due("the text does not change", x.clearText(), 6);
        due("the current query neither", x.queryLength(), 5);
        due("answerRows", x.answerRows(), 1);
        begin("8 setQuery: replaces the current query, also by a shorter one");
        rows(0, 12, 34);
        query("s0=1(p00(A))");
        due("queryLength", x.queryLength(), 12);
        due("shorter", query("A"), 2);
        due("queryLength", x.queryLength(), 1);
        due("queryAt", x.queryAt(1), NO_SUCH);
        shows("12:a 34:b");
    }

    private void setQueryRefused() {
        for (String line : new String[] {"", "E", "p0(A", "A)", "AA", "p(A)", "p01230(A)", "s4=0(A)", "j00(A)", "u(A)",
            "A ", "p0(", "a"}) {
            begin("8 setQuery: BAD_TEXT if the text is not a query");
            due("text " + line, query(line), BAD_TEXT);
            due("queryLength", x.queryLength(), 0);
        }
        begin("8 setQuery: BAD_TEXT is looked for before NOT_POSSIBLE and TOO_MANY");
        x.setColumns(0, 1);
        sameRows(0, 1, 8);
        due("begins as one that does not fit", query("p3(A"), BAD_TEXT);
        due("begins as one that is too large", query("j00(A,A"), BAD_TEXT);
        begin("8 setQuery: NOT_POSSIBLE if the query does not fit the tables");
        due("two columns", query("p2(A)"), NOT_POSSIBLE);
        x.setColumns(0, 3);
        due("three columns", x.setQuery(), 0);
        begin("8 setQuery: NOT_POSSIBLE is looked for before TOO_MANY");
        x.setColumns(0, 1);
        sameRows(0, 1, 8);
        due("too large and does not fit", query("p2(j00(A,A))"), NOT_POSSIBLE);
        due("too large within", query("u(p0(j00(A,A)),B)"), NOT_POSSIBLE);
        due("too large alone", query("j00(A,A)"), TOO_MANY);
        begin("8 setQuery: TOO_MANY if the query is too large; the current one stays");
        x.setColumns(0, 1);
        sameRows(0, 1, 8);
        query("A");
        due("too large", query("j00(A,A)"), TOO_MANY);
        due("queryLength", x.queryLength(), 1);
        shows("1:a+b+c+d+e+f+g+h");
        due("another value", x.addRow(0, 2), 8);
        shows("1:a+b+c+d+e+f+g+h 2:i");
    }

    private void dropQuery() {
        begin("9 dropQuery: returns the number of rows that the answer had, 0 to 32");
        rows(0, 10, 11, 12, 13);
        rows(1, 10, 11, 12, 13, 14, 15, 16, 17);
        query("j00(A,B)");
        for (int tag = 0; tag < 4; tag++) {
            x.setWithdrawn(tag, true);
        }
        due("32, present or not", x.dropQuery(), 32);
        query("C");
        due("none", x.dropQuery(), 0);
        begin("9 dropQuery: so that there is none");
        rows(0, 12);
        query("A");
        x.dropQuery();
        due("queryLength", x.queryLength(), 0);
        due("queryAt", x.queryAt(0), NO_SUCH);
        due("answerRows", x.answerRows(), 0);
        due("answerColumns", x.answerColumns(), 0);
        due("tags", x.tags(), 1);
        begin("9 dropQuery: NOT_POSSIBLE if there is no current query");
        due("at first", x.dropQuery(), NOT_POSSIBLE);
        query("A");
        due("one", x.dropQuery(), 0);
        due("again", x.dropQuery(), NOT_POSSIBLE);
        due("undo", x.undo(), 1);
        due("the query is back", x.dropQuery(), 0);
        due("undo", x.undo(), 1);
        due("undo", x.undo(), 0);
        due("before the query", x.dropQuery(), NOT_POSSIBLE);
    }

    // ---- text and history

    private void append() {
        begin("10 append: character 32 to 126");
        due("32", x.append(32), 1);
        due("126", x.append(126), 2);
        for (int c : new int[] {31, 127, 0, 10, -1, 128, 255, 256 + 65, 65536 + 65, 65535, LOWEST, HIGHEST}) {
            begin("10 append: BAD_VALUE if character is out of range");
            due("character " + c, x.append(c), BAD_VALUE);
            due("the text is empty", x.clearText(), 0);
        }
        for (int c = 32; c <= 126; c++) {
            begin("10 append: each character is a character of the text");
            due("append", x.append(c), 1);
            due("fault", x.fault(), "ABCD".indexOf(c) >= 0 ? NONE : "spju".indexOf(c) >= 0 ? 1 : 0);
        }
        begin("10 append: TOO_MANY if the text has 60 characters");
        for (int length = 1; length <= 60; length++) {
            due("append", x.append('A'), length);
        }
        due("a 61st", x.append('A'), TOO_MANY);
        due("a 61st again", x.append(32), TOO_MANY);
        due("BAD_VALUE is looked for before", x.append(31), BAD_VALUE);
        due("BAD_VALUE is looked for before", x.append(127), BAD_VALUE);
        due("length", x.clearText(), 60);
    }

    private void clearText() {
        begin("11 clearText: returns the length that the text had, 0 to 60");
        due("empty at first", x.clearText(), 0);
        x.append('A');
        due("1", x.clearText(), 1);
        due("empty again", x.clearText(), 0);
        type("~".repeat(60));
        due("60", x.clearText(), 60);
        begin("11 clearText: empties the text");
        type("p0(A)");
        x.clearText();
        due("fault", x.fault(), 0);
        due("setQuery", x.setQuery(), BAD_TEXT);
        due("append", x.append('D'), 1);
        due("fault", x.fault(), NONE);
    }

    private void fault() {
        begin("12 fault: NONE if the text is a query");
        type("A");
        due("fault", x.fault(), NONE);
        due("fault again", x.fault(), NONE);
        x.append('A');
        due("fault", x.fault(), 1);
        begin("12 fault: the empty text");
        due("fault", x.fault(), 0);
        begin("12 fault: the first character");
        type("Z");
        due("fault", x.fault(), 0);
        begin("12 fault: the last character of 60");
        type("u(".repeat(29) + "A)");
        due("fault", x.fault(), 59);
        begin("12 fault: behind 60 characters");
        type("u(".repeat(29) + "A,");
        due("fault", x.fault(), 60);
        begin("12 fault: is that of the text, not of the current query");
        query("A");
        type("p0(");
        due("fault", x.fault(), 3);
        due("the current query stays", x.queryLength(), 1);
        x.addRow(0, 12);
        shows("12:a");
    }

    private void undo() {
        begin("13 undo: NONE if the history is empty");
        due("at first", x.undo(), NONE);
        rows(0, 12);
        due("one state", x.undo(), 0);
        due("then none", x.undo(), NONE);
        due("tags", x.tags(), 0);
        begin("13 undo: returns the number of states that are left in the history");
        sameRows(0, 12, 5);
        for (int left = 3; left >= 0; left--) {
            due("undo", x.undo(), left);
            due("tags", Integer.bitCount(x.tags()), left + 1);
        }
        due("undo", x.undo(), NONE);
        due("tags", x.tags(), 1);
        begin("13 undo: restores the latest state, of all that belongs to it");
        widths(3, 1);
        rows(0, 123);
        x.setCost(0, 7);
        x.setTrust(0, 8);
        x.setWithdrawn(0, true);
        query("p01(A)");
        x.dropRow(0);
        due("undo", x.undo(), 3);
        due("tableOf", x.tableOf(0), 0);
        due("value", x.value(0, 2), 3);
        due("cost", x.cost(0), 7);
        due("trust", x.trust(0), 8);
        due("withdrawn", x.withdrawn(), 1);
        due("columns", x.columns(1), 1);
        due("queryLength", x.queryLength(), 6);
        due("queryAt", x.queryAt(5), ')');
        shows("12:a");
        begin("13 undo: The text and the printed polynomial do not change");
        rows(0, 12);
        query("A");
        x.print(0, 0);
        type("u(A,A)!");
        due("undo", x.undo(), 1);
        due("fault", x.fault(), 6);
        due("printed", paper(), "a");
        due("clearText", x.clearText(), 7);
        begin("13 undo: a query of 60 characters comes back");
        rows(0, 12);
        query("p0(u(A,u(A,u(A,u(A,u(A,u(A,u(A,u(A,u(A,u(A,u(A,A))))))))))))");
        x.dropQuery();
        x.undo();
        due("queryLength", x.queryLength(), 60);
        shows("1:12a");
        begin("13 undo: a full history after undo has room again");
        sameRows(0, 12, 6);
        x.undo();
        x.undo();
        rows(0, 12);
        due("undo", x.undo(), 2);
        due("tags", x.tags(), 0xf);
    }
}
