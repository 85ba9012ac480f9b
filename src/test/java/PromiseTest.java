/** For each promise: ordinary inputs, the edges that the document names, and wrong inputs. */
public final class PromiseTest extends Checks {
    public static void main(String[] args) {
        PromiseTest t = new PromiseTest();
        t.baseTables();
        t.currentQuery();
        t.textAndHistory();
        t.readingTables();
        t.readingAnswer();
        t.evaluating();
        t.withdrawing();
        t.printing();
        t.relations();
        t.finish();
    }

    // ---- promises 1 to 7

    private void baseTables() {
        newObject();
        setColumns();
        addRow();
        addRowTooLarge();
        dropRow();
        setCost();
        setTrust();
        setWithdrawn();
    }

    private void newObject() {
        begin("1 new object");
        due("tags", x.tags(), 0);
        due("withdrawn", x.withdrawn(), 0);
        for (int table = 0; table < 4; table++) {
            due("columns", x.columns(table), 2);
        }
        due("queryLength", x.queryLength(), 0);
        due("answerRows", x.answerRows(), 0);
        due("answerColumns", x.answerColumns(), 0);
        due("fault", x.fault(), 0);
        due("clearText", x.clearText(), 0);
        due("printed", x.printed(0), NO_SUCH);
        due("undo", x.undo(), NONE);
        due("lostIf", x.lostIf(0), 0);
        ProvenanceTables other = new ProvenanceTables();
        other.addRow(0, 1);
        other.append('A');
        other.setQuery();
        due("tags beside another object", x.tags(), 0);
        due("answerRows beside another object", x.answerRows(), 0);
        due("fault beside another object", x.fault(), 0);
    }

    private void setColumns() {
        begin("2 setColumns");
        due("from 2 to 1", x.setColumns(3, 1), 2);
        due("from 1 to 3", x.setColumns(3, 3), 1);
        due("same again", x.setColumns(3, 3), 3);
        due("columns", x.columns(3), 3);
        due("columns of another", x.columns(2), 2);
        for (int table : new int[] {-1, 4, LOWEST, HIGHEST}) {
            due("table " + table, x.setColumns(table, 0), NO_SUCH);
        }
        for (int columns : new int[] {0, 4, -1, LOWEST, HIGHEST}) {
            due("columns " + columns, x.setColumns(0, columns), BAD_VALUE);
        }
        due("errors are not in the history", historySize(), 3);
        begin("2 setColumns not possible");
        rows(0, 12);
        due("with a row", x.setColumns(0, 2), NOT_POSSIBLE);
        due("bad value first", x.setColumns(0, 4), BAD_VALUE);
        due("another table", x.setColumns(1, 1), 2);
        due("query", query("u(A,p00(B))"), 1);
        due("in the query", x.setColumns(1, 1), NOT_POSSIBLE);
        due("not in the query", x.setColumns(2, 1), 2);
        x.dropRow(0);
        due("in the query without a row", x.setColumns(0, 3), NOT_POSSIBLE);
        type("C");
        due("only in the text", x.setColumns(2, 2), 1);
        x.dropQuery();
        due("after dropQuery", x.setColumns(0, 3), 2);
    }

    private void addRow() {
        begin("3 addRow");
        due("first", x.addRow(0, 7), 0);
        due("leading zero", x.value(0, 0), 0);
        due("last column lowest", x.value(0, 1), 7);
        due("same values", x.addRow(0, 7), 1);
        due("99", x.addRow(0, 99), 2);
        for (int table : new int[] {-1, 4, LOWEST, HIGHEST}) {
            due("table " + table, x.addRow(table, -1), NO_SUCH);
        }
        for (int values : new int[] {-1, 100, 1000, LOWEST, HIGHEST}) {
            due("values " + values, x.addRow(0, values), BAD_VALUE);
        }
        x.setColumns(1, 1);
        x.setColumns(2, 3);
        due("one digit", x.addRow(1, 9), 3);
        due("two digits", x.addRow(1, 10), BAD_VALUE);
        due("three digits", x.addRow(2, 999), 4);
        due("0", x.addRow(2, 0), 5);
        due("four digits", x.addRow(2, 1000), BAD_VALUE);
        x.setCost(1, 5);
        x.setTrust(1, 6);
        x.setWithdrawn(1, true);
        x.dropRow(1);
        x.dropRow(4);
        due("least free tag", x.addRow(3, 55), 1);
        due("cost at first", x.cost(1), 1);
        due("trust at first", x.trust(1), 100);
        due("not withdrawn at first", x.withdrawn(), 0);
        due("next free tag", x.addRow(3, 55), 4);
        for (int tag = 6; tag < 16; tag++) {
            due("tag", x.addRow(3, tag), tag);
        }
        due("a seventeenth", x.addRow(3, 1), TOO_MANY);
        due("bad value first", x.addRow(3, 100), BAD_VALUE);
        due("tags", x.tags(), 0xffff);
        x.dropRow(15);
        due("room again", x.addRow(0, 1), 15);
    }

    private void addRowTooLarge() {
        begin("3 addRow, rows of the answer");
        rows(0, 10, 11, 12, 13);
        rows(1, 10, 11, 12, 13, 14, 15, 16, 17);
        due("32 rows", query("j00(A,B)"), 32);
        due("36 rows", x.addRow(1, 18), TOO_MANY);
        due("tags", x.tags(), 0xfff);
        due("answerRows", x.answerRows(), 32);
        due("a row that joins with none", x.addRow(1, 28), 12);
        due("answerRows", x.answerRows(), 32);
        due("a row of the same values", x.addRow(1, 17), 13);
        due("terms", x.terms(7, 0), 2);
        due("undo", x.undo(), 3);
        due("undo", x.undo(), 2);
        due("the error is not in the history", x.undo(), 1);
        due("no query now", x.queryLength(), 0);
        begin("3 addRow, terms of the answer");
        x.setColumns(0, 1);
        x.setColumns(1, 1);
        rows(0, 1, 1, 1, 1);
        rows(1, 1, 1, 1, 1, 1, 1, 1, 1);
        due("one row", query("j00(A,B)"), 1);
        due("32 terms", x.terms(0, 0), 32);
        due("36 terms", x.addRow(1, 1), TOO_MANY);
        due("a table not in the query", x.addRow(2, 1), 12);
        begin("3 addRow, a query within");
        rows(0, 10, 11, 12, 13);
        rows(1, 10, 11, 12, 13, 14, 15, 16, 17);
        due("none of 32 rows", query("s0=5(j00(A,B))"), 0);
        due("none of 36 rows", x.addRow(1, 18), TOO_MANY);
        due("answerRows", x.answerRows(), 0);
    }

    private void dropRow() {
        begin("4 dropRow");
        rows(0, 11, 22, 33);
        due("A", query("A"), 3);
        due("drop", x.dropRow(1), 2);
        due("tags", x.tags(), 5);
        shows("11:a 33:c");
        due("again", x.dropRow(1), NO_SUCH);
        for (int tag : new int[] {-1, 16, 32, LOWEST, HIGHEST}) {
            due("tag " + tag, x.dropRow(tag), NO_SUCH);
        }
        x.setWithdrawn(2, true);
        due("drop a withdrawn one", x.dropRow(2), 1);
        due("withdrawn", x.withdrawn(), 0);
        due("drop", x.dropRow(0), 0);
        due("answerRows", x.answerRows(), 0);
        due("answerColumns", x.answerColumns(), 2);
    }

    private void setCost() {
        begin("5 setCost");
        rows(0, 11);
        due("to 0", x.setCost(0, 0), 1);
        due("to 999", x.setCost(0, 999), 0);
        due("same", x.setCost(0, 999), 999);
        due("1000", x.setCost(0, 1000), BAD_VALUE);
        due("-1", x.setCost(0, -1), BAD_VALUE);
        due("no such first", x.setCost(1, -1), NO_SUCH);
        due("tag -1", x.setCost(-1, 1), NO_SUCH);
        due("tag 16", x.setCost(16, 1), NO_SUCH);
        due("tag 32", x.setCost(32, 1), NO_SUCH);
        due("cost", x.cost(0), 999);
        due("history", historySize(), 4);
    }

    private void setTrust() {
        begin("6 setTrust");
        rows(0, 11);
        due("to 0", x.setTrust(0, 0), 100);
        due("to 100", x.setTrust(0, 100), 0);
        due("to 7", x.setTrust(0, 7), 100);
        due("101", x.setTrust(0, 101), BAD_VALUE);
        due("-1", x.setTrust(0, -1), BAD_VALUE);
        due("no such first", x.setTrust(1, 101), NO_SUCH);
        due("tag -1", x.setTrust(-1, 1), NO_SUCH);
        due("tag 16", x.setTrust(16, 1), NO_SUCH);
        due("trust", x.trust(0), 7);
        due("history", historySize(), 4);
    }

    private void setWithdrawn() {
        begin("7 setWithdrawn");
        rows(0, 11, 22, 22);
        due("without a query", x.setWithdrawn(0, true), 0);
        due("query", query("A"), 2);
        due("one of two", x.setWithdrawn(1, true), 1);
        due("same again", x.setWithdrawn(1, true), 1);
        due("both", x.setWithdrawn(2, true), 0);
        due("back", x.setWithdrawn(0, false), 1);
        due("withdrawn", x.withdrawn(), 6);
        due("answerRows", x.answerRows(), 2);
        due("tag 3", x.setWithdrawn(3, true), NO_SUCH);
        due("tag -1", x.setWithdrawn(-1, true), NO_SUCH);
        due("tag 16", x.setWithdrawn(16, false), NO_SUCH);
        due("undo", x.undo(), 3);
        due("withdrawn before", x.withdrawn(), 7);
    }

    // ---- promises 8 and 9

    private void currentQuery() {
        begin("8 setQuery");
        due("empty text", x.setQuery(), BAD_TEXT);
        due("begun", query("u(A"), BAD_TEXT);
        due("too long", query("A)"), BAD_TEXT);
        due("bad text before not possible", query("s3=1(A"), BAD_TEXT);
        due("not in the history", x.undo(), NONE);
        rows(0, 11, 12);
        due("A", query("A"), 2);
        due("text is left", x.clearText(), 1);
        due("query is left", x.queryLength(), 1);
        due("bad text", query("E"), BAD_TEXT);
        due("query is left", x.answerRows(), 2);
        due("B", query("B"), 0);
        due("same again", x.setQuery(), 0);
        due("history", historySize(), 4);
        fits();
        begin("8 setQuery too large");
        x.setColumns(2, 1);
        rows(0, 10, 11, 12, 13, 14, 15);
        rows(2, 1, 1, 1, 1, 1, 1, 1, 1);
        due("36 rows", query("j00(A,A)"), TOO_MANY);
        due("36 rows within", query("p0(j00(A,A))"), TOO_MANY);
        due("36 rows within, none left", query("s0=2(j00(A,A))"), TOO_MANY);
        due("36 terms", query("j00(C,C)"), TOO_MANY);
        due("36 terms within", query("s0=2(j00(C,C))"), TOO_MANY);
        due("36 terms within", query("u(A,j00(C,C))"), TOO_MANY);
        due("not possible first", query("u(B,p0(j00(C,C)))"), NOT_POSSIBLE);
        due("queryLength", x.queryLength(), 0);
        dropQuery();
    }

    private void fits() {
        String[] fitting = {"A", "s0=9(A)", "s1=0(B)", "s1~0(B)", "s2~2(C)", "p0(A)", "p0000(A)", "p2101(C)",
            "j00(A,C)", "j02(A,C)", "j20(C,A)", "j11(B,D)", "u(A,A)", "u(B,p00(A))", "u(C,j01(A,B))",
            "s3=1(j00(B,B))", "p3(j00(j00(A,A),j00(A,A)))", "u(p0000(A),j00(B,B))"};
        String[] unfitting = {"s1=0(A)", "s2=0(B)", "s0~2(B)", "s2~0(B)", "s3=0(C)", "s3~3(C)", "p1(A)", "p002(B)",
            "j10(A,C)", "j03(A,C)", "j30(C,A)", "j01(C,A)", "j00(C,B)", "j00(C,C)", "u(A,B)", "u(B,p0(B))",
            "u(C,j00(B,B))", "s0=1(s1=1(A))", "u(A,p0(s1=1(A)))", "j00(A,u(A,B))", "p0(j00(B,C))", "p1(p0(B))",
            "j00(j00(A,A),C)"};
        for (String line : fitting) {
            isAnswered(line, 0);
        }
        for (String line : unfitting) {
            isAnswered(line, NOT_POSSIBLE);
        }
    }

    private void isAnswered(String line, int want) {
        begin("8 setQuery fits");
        widths(1, 2, 3, 2);
        due(line, query(line), want);
        due(line + " has no fault", x.fault(), NONE);
    }

    private void dropQuery() {
        begin("9 dropQuery");
        due("none", x.dropQuery(), NOT_POSSIBLE);
        due("not in the history", x.undo(), NONE);
        rows(0, 11, 22);
        query("A");
        due("drop", x.dropQuery(), 2);
        due("queryLength", x.queryLength(), 0);
        due("answerRows", x.answerRows(), 0);
        due("answerColumns", x.answerColumns(), 0);
        due("answerValue", x.answerValue(0, 0), NO_SUCH);
        due("text is left", x.fault(), NONE);
        due("again", x.dropQuery(), NOT_POSSIBLE);
        x.undo();
        due("undone", x.answerRows(), 2);
        query("B");
        due("an empty answer", x.dropQuery(), 0);
    }

    // ---- promises 10 to 13

    private void textAndHistory() {
        begin("10 append");
        for (int c : new int[] {31, 127, 0, -1, 256 + 65, 65536 + 65, LOWEST, HIGHEST}) {
            due("character " + c, x.append(c), BAD_VALUE);
        }
        due("32", x.append(32), 1);
        due("126", x.append(126), 2);
        for (int length = 3; length <= 60; length++) {
            due("A", x.append('A'), length);
        }
        due("61", x.append('A'), TOO_MANY);
        due("bad value first", x.append(127), BAD_VALUE);
        due("not an action", x.undo(), NONE);
        begin("11 clearText");
        due("60", x.clearText(), 0);
        type("u(A,A)");
        due("6", x.clearText(), 6);
        due("0", x.clearText(), 0);
        due("fault", x.fault(), 0);
        due("not an action", x.undo(), NONE);
        faults();
        undo();
    }

    private void faults() {
        begin("12 fault");
        String[] queries = {"A", "B", "C", "D", "s0=0(A)", "s3=9(D)", "s3~0(A)", "p0(A)", "p0123(A)", "p3333(A)",
            "j00(A,B)", "j33(A,B)", "u(A,B)", "u(u(A,B),j00(p0(A),s0=1(B)))",
            "p0(p0(p0(p0(p0(p0(p0(p0(p0(p0(p0(p0(p0(p0(A))))))))))))))", "u(A,u(A,u(A,u(A,u(A,u(A,u(A,u(A,u(A,A)))))))))"};
        for (String line : queries) {
            hasFault(line, NONE);
            for (int length = 0; length < line.length(); length++) {
                hasFault(line.substring(0, length), length);
            }
            hasFault(line + "A", line.length());
        }
        // a sign ! stands before the character that is the fault of the line without it
        String[] broken = {"!E", "!a", "!(", "! A", "A! ", "A!)", "A!A", "s!4=0(A)", "s!(A)", "s0!(A)", "s0!0(A)",
            "s0=!=1(A)", "s0=!A(A)", "s0=0!A", "s0=1!0(A)", "s0=0(A!,A)", "s0~!4(A)", "s0~0!0(A)", "s0~!=(A)",
            "p!(A)", "p!4(A)", "p0!4(A)", "p0123!0(A)", "p0!=(A)", "p0(!)", "p0(A!,", "j!(A,A)", "j0!(A,A)",
            "j0!4(", "j00!0(", "j00(A!)", "j00(A,A!,A)", "j00(!,A)", "u!0(A,A)", "u(A!)", "u(!,", "u(A,A!,",
            "u(A,!)", "u(A,A)!)", "u(A,s0~!9(A))", "u(A,u(A,A)!,A)",
            "u(u(u(u(u(u(u(u(u(u(u(u(u(u(u(u(u(u(u(u(u(u(u(u(u(u(u(u(u!u)"};
        for (String line : broken) {
            hasFault(line.replace("!", ""), line.indexOf('!'));
        }
        for (String head : new String[] {"u(", "p0(", "j00("}) {
            hasFault(head.repeat(30).substring(0, 60), 60);
        }
        hasFault("p3(A)", NONE);
    }

    private void hasFault(String line, int want) {
        begin("12 fault");
        type(line);
        due("fault of " + line, x.fault(), want);
    }

    private void undo() {
        begin("13 undo");
        due("empty", x.undo(), NONE);
        rows(0, 11);
        query("A");
        x.print(0, 0);
        x.setCost(0, 5);
        x.setTrust(0, 6);
        x.setWithdrawn(0, true);
        x.setColumns(1, 3);
        x.clearText();
        x.append('u');
        due("fourth", x.undo(), 3);
        due("columns", x.columns(1), 2);
        due("withdrawn", x.withdrawn(), 1);
        due("third", x.undo(), 2);
        due("withdrawn", x.withdrawn(), 0);
        due("trust", x.trust(0), 6);
        due("second", x.undo(), 1);
        due("trust", x.trust(0), 100);
        due("cost", x.cost(0), 5);
        due("first", x.undo(), 0);
        due("cost", x.cost(0), 1);
        due("older states are gone", x.undo(), NONE);
        due("tags", x.tags(), 1);
        due("answerRows", x.answerRows(), 1);
        due("text is left", x.fault(), 1);
        due("printed is left", x.printed(0), 'a');
        due("a new action", x.dropRow(0), 0);
        due("answerRows", x.answerRows(), 0);
        due("back", x.undo(), 0);
        shows("11:a");
        x.dropQuery();
        query("p1(A)");
        x.addRow(0, 22);
        shows("1:a 2:b");
        x.undo();
        shows("1:a");
        x.undo();
        due("no query", x.answerColumns(), 0);
        x.undo();
        shows("11:a");
        due("queryAt", x.queryAt(0), 'A');
        due("queryLength", x.queryLength(), 1);
        due("room", x.addRow(0, 33), 1);
        shows("11:a 33:b");
    }

    // ---- promises 14 to 22

    private void readingTables() {
        begin("14 columns");
        x.setColumns(2, 3);
        due("columns(2)", x.columns(2), 3);
        due("columns(3)", x.columns(3), 2);
        due("columns(-1)", x.columns(-1), NO_SUCH);
        due("columns(4)", x.columns(4), NO_SUCH);
        due("columns(lowest)", x.columns(LOWEST), NO_SUCH);
        begin("15 tags, 16 withdrawn, 17 tableOf");
        rows(3, 12);
        rows(0, 34);
        rows(3, 56);
        due("tags", x.tags(), 7);
        x.dropRow(1);
        due("tags", x.tags(), 5);
        due("withdrawn", x.withdrawn(), 0);
        x.setWithdrawn(2, true);
        due("withdrawn", x.withdrawn(), 4);
        x.setWithdrawn(0, true);
        x.setWithdrawn(2, false);
        due("withdrawn", x.withdrawn(), 1);
        due("tableOf(0)", x.tableOf(0), 3);
        due("tableOf(1)", x.tableOf(1), NO_SUCH);
        due("tableOf(2)", x.tableOf(2), 3);
        x.addRow(1, 12);
        due("tableOf(1)", x.tableOf(1), 1);
        begin("17 to 20, no such row");
        rows(2, 47);
        for (int tag : new int[] {-1, 1, 15, 16, 32, LOWEST, HIGHEST}) {
            due("tableOf", x.tableOf(tag), NO_SUCH);
            due("value", x.value(tag, 0), NO_SUCH);
            due("cost", x.cost(tag), NO_SUCH);
            due("trust", x.trust(tag), NO_SUCH);
        }
        begin("18 value, 19 cost, 20 trust");
        x.setColumns(1, 3);
        rows(1, 123);
        rows(0, 45);
        due("value(0, 0)", x.value(0, 0), 1);
        due("value(0, 1)", x.value(0, 1), 2);
        due("value(0, 2)", x.value(0, 2), 3);
        due("value(0, 3)", x.value(0, 3), NO_SUCH);
        due("value(1, 1)", x.value(1, 1), 5);
        due("value(1, 2)", x.value(1, 2), NO_SUCH);
        due("value(1, -1)", x.value(1, -1), NO_SUCH);
        due("value(1, highest)", x.value(1, HIGHEST), NO_SUCH);
        x.setCost(1, 77);
        x.setTrust(0, 55);
        due("cost(0)", x.cost(0), 1);
        due("cost(1)", x.cost(1), 77);
        due("trust(0)", x.trust(0), 55);
        due("trust(1)", x.trust(1), 100);
        begin("21 queryLength, 22 queryAt");
        due("queryAt(0)", x.queryAt(0), NO_SUCH);
        query("s0~1(A)");
        x.clearText();
        due("queryLength", x.queryLength(), 7);
        for (int i = 0; i < 7; i++) {
            due("queryAt", x.queryAt(i), "s0~1(A)".charAt(i));
        }
        due("queryAt(7)", x.queryAt(7), NO_SUCH);
        due("queryAt(-1)", x.queryAt(-1), NO_SUCH);
        due("queryAt(highest)", x.queryAt(HIGHEST), NO_SUCH);
        query("A");
        due("queryLength", x.queryLength(), 1);
        due("queryAt(1)", x.queryAt(1), NO_SUCH);
        x.dropQuery();
        due("queryLength", x.queryLength(), 0);
        due("queryAt(0)", x.queryAt(0), NO_SUCH);
    }

    // ---- promises 23 to 29

    private void readingAnswer() {
        begin("23 answerRows, 24 answerColumns, 25 answerValue");
        rows(0, 21, 12, 20, 2);
        due("rows", query("A"), 4);
        due("answerRows", x.answerRows(), 4);
        due("answerColumns", x.answerColumns(), 2);
        shows("02:d 12:b 20:c 21:a");
        x.setWithdrawn(3, true);
        due("present or not", x.answerRows(), 4);
        due("answerValue(3, 1)", x.answerValue(3, 1), 1);
        due("answerValue(4, 0)", x.answerValue(4, 0), NO_SUCH);
        due("answerValue(-1, 0)", x.answerValue(-1, 0), NO_SUCH);
        due("answerValue(0, 2)", x.answerValue(0, 2), NO_SUCH);
        due("answerValue(0, -1)", x.answerValue(0, -1), NO_SUCH);
        due("answerValue(highest)", x.answerValue(HIGHEST, HIGHEST), NO_SUCH);
        query("j00(A,A)");
        due("answerColumns", x.answerColumns(), 4);
        due("answerValue(2, 3)", x.answerValue(2, 3), 0);
        due("answerValue(3, 3)", x.answerValue(3, 3), 1);
        query("s0=7(A)");
        due("answerColumns without rows", x.answerColumns(), 2);
        due("answerRows", x.answerRows(), 0);
        forms();
        wrongForms();
    }

    /** Row 0 of the answer is 3a + 2a^2 + 2ab + b^2 + bc, where the order is a^2, ab, a, b^2, bc. */
    private void formsExample() {
        x = new ProvenanceTables();
        x.setColumns(0, 1);
        x.setColumns(1, 1);
        x.setColumns(2, 1);
        rows(0, 1);
        rows(1, 1);
        rows(2, 1);
        query("p0(u(j00(u(A,B),u(A,B)),u(j00(A,A),u(j00(B,C),p00(A)))))");
    }

    private void forms() {
        begin("26 terms, 27 coefficient, 28 exponent, 29 lineage");
        formsExample();
        due("answerRows", x.answerRows(), 1);
        prints(0, 0, "2a^2+2ab+a+b^2+bc");
        prints(0, 1, "a^2+ab+a+b^2+bc");
        prints(0, 2, "2ab+3a+bc+b");
        prints(0, 3, "ab+a+bc+b");
        prints(0, 4, "a+b");
        int[] sizes = {5, 5, 4, 4, 2};
        for (int form = 0; form < 5; form++) {
            due("terms", x.terms(0, form), sizes[form]);
        }
        long[][] coefficients = {{2, 2, 1, 1, 1}, {1, 1, 1, 1, 1}, {2, 3, 1, 1}, {1, 1, 1, 1}, {1, 1}};
        for (int form = 0; form < 5; form++) {
            for (int term = 0; term < coefficients[form].length; term++) {
                due("coefficient", x.coefficient(0, form, term), coefficients[form][term]);
            }
            due("coefficient behind", x.coefficient(0, form, coefficients[form].length), NO_SUCH);
        }
        due("exponent a in a^2", x.exponent(0, 0, 0, 0), 2);
        due("exponent b in a^2", x.exponent(0, 0, 0, 1), 0);
        due("exponent b in b^2", x.exponent(0, 1, 3, 1), 2);
        due("exponent c in bc", x.exponent(0, 0, 4, 2), 1);
        due("exponent of no row's tag", x.exponent(0, 0, 4, 15), 0);
        due("exponent a in form 2", x.exponent(0, 2, 1, 0), 1);
        due("exponent b in form 4", x.exponent(0, 4, 1, 1), 1);
        due("lineage", x.lineage(0), 7);
        x.setWithdrawn(2, true);
        due("lineage with a withdrawn one", x.lineage(0), 7);
        due("terms with a withdrawn one", x.terms(0, 0), 5);
        for (int row : new int[] {-1, 1, LOWEST, HIGHEST}) {
            due("lineage", x.lineage(row), NO_SUCH);
        }
    }

    private void wrongForms() {
        formsExample();
        for (int row : new int[] {-1, 1, 32, LOWEST, HIGHEST}) {
            due("terms, no such row", x.terms(row, 9), NO_SUCH);
            due("coefficient, no such row", x.coefficient(row, 9, 0), NO_SUCH);
            due("exponent, no such row", x.exponent(row, 9, 0, 99), NO_SUCH);
            due("print, no such row", x.print(row, 9), NO_SUCH);
        }
        for (int form : new int[] {-1, 5, LOWEST, HIGHEST}) {
            due("terms, bad form", x.terms(0, form), BAD_VALUE);
            due("coefficient, bad form", x.coefficient(0, form, 99), BAD_VALUE);
            due("exponent, bad form", x.exponent(0, form, 99, 0), BAD_VALUE);
            due("print, bad form", x.print(0, form), BAD_VALUE);
        }
        for (int term : new int[] {-1, 5, LOWEST, HIGHEST}) {
            due("coefficient, no such term", x.coefficient(0, 0, term), NO_SUCH);
            due("exponent, no such term", x.exponent(0, 0, term, 0), NO_SUCH);
        }
        for (int tag : new int[] {-1, 16, LOWEST, HIGHEST}) {
            due("exponent, bad tag", x.exponent(0, 0, 99, tag), BAD_VALUE);
        }
        due("exponent in term 4 of form 2", x.exponent(0, 2, 4, 0), NO_SUCH);
    }

    // ---- promises 30 to 34

    private void evaluating() {
        begin("30 derivations");
        formsExample();
        due("all", x.derivations(0), 7);
        x.setWithdrawn(2, true);
        due("without c", x.derivations(0), 6);
        x.setWithdrawn(0, true);
        due("without a and c", x.derivations(0), 1);
        x.setWithdrawn(1, true);
        due("without any", x.derivations(0), 0);
        due("no such row", x.derivations(1), NO_SUCH);
        due("no such row", x.derivations(-1), NO_SUCH);
        begin("31 leastCost, 32 cheapestTags");
        formsExample();
        x.setCost(0, 9);
        x.setCost(1, 4);
        x.setCost(2, 4);
        due("b^2 costs 8", x.leastCost(0), 8);
        due("the first of b^2 and bc", x.cheapestTags(0), 2);
        x.setCost(2, 3);
        due("bc costs 7", x.leastCost(0), 7);
        due("bc", x.cheapestTags(0), 6);
        x.setCost(0, 0);
        due("a costs 0", x.leastCost(0), 0);
        due("a^2 is before a", x.cheapestTags(0), 1);
        x.setCost(0, 999);
        x.setCost(1, 999);
        due("a costs 999", x.leastCost(0), 999);
        x.setWithdrawn(0, true);
        due("without a", x.leastCost(0), 1002);
        x.setWithdrawn(2, true);
        due("without a and c", x.leastCost(0), 1998);
        due("b^2", x.cheapestTags(0), 2);
        x.setWithdrawn(1, true);
        due("not present", x.leastCost(0), NONE);
        due("not present", x.cheapestTags(0), NONE);
        due("no such row", x.leastCost(1), NO_SUCH);
        due("no such row", x.cheapestTags(-1), NO_SUCH);
        trusts();
    }

    private void trusts() {
        begin("33 answerTrust, 34 confidence");
        formsExample();
        x.setTrust(0, 30);
        x.setTrust(1, 60);
        x.setTrust(2, 70);
        due("b^2 has 60", x.answerTrust(0), 60);
        due("bc", x.confidence(0), (0.6f) * (70 / 100.0f));
        x.setWithdrawn(2, true);
        due("b^2", x.confidence(0), 1.0f * (60 / 100.0f) * (60 / 100.0f));
        x.setTrust(1, 10);
        due("a has 30", x.answerTrust(0), 30);
        due("a", x.confidence(0), 30 / 100.0f);
        x.setTrust(0, 0);
        x.setTrust(1, 0);
        due("0 but present", x.answerTrust(0), 0);
        due("0 but present", x.confidence(0), 0.0);
        x.setWithdrawn(0, true);
        x.setWithdrawn(1, true);
        due("not present", x.answerTrust(0), NONE);
        due("not present", x.confidence(0), 0.0);
        for (int row : new int[] {-1, 1, LOWEST, HIGHEST}) {
            due("no such row", x.answerTrust(row), NO_SUCH);
            due("no such row", x.confidence(row), -1.0);
        }
        begin("34 confidence, the order of the float products");
        x.setColumns(0, 1);
        rows(0, 1, 1, 1);
        x.dropRow(0);
        x.dropRow(1);
        rows(1, 10);
        rows(3, 10);
        x.setTrust(0, 13);
        x.setTrust(1, 37);
        x.setTrust(2, 83);
        query("p0(j00(p0(j00(A,A)),p0(j00(D,B))))");
        prints(0, 0, "abc^2");
        float a = 13 / 100.0f;
        float b = 37 / 100.0f;
        float c = 83 / 100.0f;
        due("abc^2", x.confidence(0), 1.0f * a * b * c * c);
    }

    // ---- promises 35 to 38

    private void withdrawing() {
        begin("35 needed");
        formsExample();
        due("none", x.needed(0), 0);
        x.setWithdrawn(0, true);
        due("b", x.needed(0), 2);
        x.setWithdrawn(2, true);
        due("b still", x.needed(0), 2);
        x.setWithdrawn(1, true);
        due("not present", x.needed(0), NONE);
        due("no such row", x.needed(1), NO_SUCH);
        due("no such row", x.needed(-1), NO_SUCH);
        begin("36 smallestCut");
        formsExample();
        due("a and b", x.smallestCut(0), 3);
        x.setWithdrawn(0, true);
        due("b", x.smallestCut(0), 2);
        x.setWithdrawn(1, true);
        due("not present", x.smallestCut(0), NONE);
        due("no such row", x.smallestCut(1), NO_SUCH);
        due("no such row", x.smallestCut(-1), NO_SUCH);
        begin("36 smallestCut, the least of several");
        x.setColumns(0, 1);
        rows(0, 1, 2);
        rows(1, 12, 21);
        query("p0(p000(j00(A,B)))");
        prints(0, 0, "ac");
        due("a or c", x.smallestCut(0), 1);
        query("p3(j00(p11(j00(A,B)),p01(B)))");
        due("answerRows", x.answerRows(), 2);
        prints(0, 0, "bd^2");
        due("b or d", x.smallestCut(0), 2);
        due("a or c", x.smallestCut(1), 1);
        pairs();
        begin("38 lostIf");
        formsExample();
        due("none", x.lostIf(0), 0);
        due("a", x.lostIf(1), 0);
        due("a and b", x.lostIf(3), 1);
        x.setWithdrawn(0, true);
        due("b", x.lostIf(2), 1);
        due("c", x.lostIf(4), 0);
        x.setWithdrawn(1, true);
        due("not present before", x.lostIf(7), 0);
        for (int tags : new int[] {-1, 8, 15, 1 << 15, 1 << 16, 1 << 30, LOWEST, HIGHEST}) {
            due("lostIf(" + tags + ")", x.lostIf(tags), BAD_VALUE);
        }
        begin("38 lostIf, without a query");
        rows(0, 1);
        due("lostIf", x.lostIf(1), 0);
    }

    /** One row that is the sum of eight pairs of tags, or of sixteen tags. */
    private void pairs() {
        begin("36 smallestCut, 37 worlds");
        for (int i = 0; i < 8; i++) {
            rows(0, i + 10);
        }
        for (int i = 0; i < 8; i++) {
            rows(1, i + 10);
        }
        query("p0(j11(A,B))");
        prints(0, 0, "ai+bj+ck+dl+em+fn+go+hp");
        due("one of each pair", x.smallestCut(0), 0xff);
        due("worlds", x.worlds(0), 65536 - 6561);
        x.setWithdrawn(0, true);
        due("seven pairs", x.smallestCut(0), 0xfe);
        due("worlds with one withdrawn", x.worlds(0), 65536 - 6561);
        query("p0(u(A,B))");
        due("sixteen tags but one", x.smallestCut(0), 0xfffe);
        due("worlds of sixteen tags", x.worlds(0), 65535);
        due("no such row", x.worlds(1), NO_SUCH);
        due("no such row", x.worlds(-1), NO_SUCH);
        begin("37 worlds");
        formsExample();
        due("sets of a, b and c with a or b", x.worlds(0), 6);
        x.setWithdrawn(0, true);
        x.setWithdrawn(1, true);
        due("withdrawn or not", x.worlds(0), 6);
    }

    // ---- promises 39 and 40

    private void printing() {
        begin("39 print, 40 printed");
        formsExample();
        due("nothing printed", x.printed(0), NO_SUCH);
        prints(0, 0, "2a^2+2ab+a+b^2+bc");
        prints(0, 4, "a+b");
        due("bad form", x.print(0, 5), BAD_VALUE);
        due("no such row", x.print(1, 0), NO_SUCH);
        due("what was printed stays", x.printed(2), 'b');
        x.dropQuery();
        due("what was printed stays", x.printed(2), 'b');
        for (int index : new int[] {-1, 3, LOWEST, HIGHEST}) {
            due("printed(" + index + ")", x.printed(index), NO_SUCH);
        }
        begin("39 print, all tags");
        for (int i = 0; i < 16; i++) {
            rows(0, 11);
        }
        query("A");
        prints(0, 0, "a+b+c+d+e+f+g+h+i+j+k+l+m+n+o+p");
        due("not an action", x.undo(), 3);
        begin("39 print, greatest numbers");
        x.setColumns(0, 1);
        rows(0, 1);
        query("j00(p0(j00(j00(A,A),j00(A,A))),j00(j00(A,A),A))");
        prints(0, 0, "a^7");
        query("j00(p0(j00(j00(A,A),j00(A,A))),p0(j00(j00(A,A),j00(A,A))))");
        prints(0, 0, "a^8");
        prints(0, 2, "a");
        query("u(u(u(u(u(A,A),A),A),A),u(u(u(u(u(A,A),A),A),A),A))");
        prints(0, 0, "11a");
        rows(0, 1);
        query("j00(j00(u(A,A),u(A,A)),j00(u(A,A),u(A,A)))");
        prints(0, 0, "16a^4+64a^3b+96a^2b^2+64ab^3+16b^4");
        prints(0, 2, "224ab+16a+16b");
        prints(0, 4, "a+b");
    }

    // ---- relations

    private void relations() {
        relationsOfOne();
        relationsOfTwo();
        deepQueries();
    }

    private void rowsOfThreeTables() {
        x.setColumns(2, 1);
        rows(0, 12, 21, 11, 12);
        rows(1, 12, 33);
        rows(2, 1, 2);
    }

    private void relationsOfOne() {
        begin("relations of one part");
        rowsOfThreeTables();
        query("A");
        shows("11:c 12:a+d 21:b");
        query("s0=1(A)");
        shows("11:c 12:a+d");
        query("s1=2(A)");
        shows("12:a+d");
        query("s0~1(A)");
        shows("11:c");
        query("s0~0(A)");
        shows("11:c 12:a+d 21:b");
        query("p0(A)");
        shows("1:a+c+d 2:b");
        query("p10(A)");
        shows("11:c 12:b 21:a+d");
        query("p101(A)");
        shows("111:c 121:b 212:a+d");
    }

    private void relationsOfTwo() {
        begin("relations of two parts");
        rowsOfThreeTables();
        query("u(A,B)");
        shows("11:c 12:a+d+e 21:b 33:f");
        query("u(B,A)");
        shows("11:c 12:a+d+e 21:b 33:f");
        query("j01(C,A)");
        shows("111:cg 121:bg 212:ah+dh");
        query("j10(A,C)");
        shows("111:cg 122:ah+dh 211:bg");
        query("j00(B,A)");
        shows("1211:ce 1212:ae+de");
        x.setWithdrawn(4, true);
        shows("1211:ce 1212:ae+de");
        query("D");
        shows("");
    }

    private void deepQueries() {
        begin("relations, deep queries");
        x.setColumns(0, 1);
        rows(0, 1, 2);
        query("u(A,u(A,u(A,u(A,u(A,u(A,u(A,u(A,u(A,u(A,u(A,A)))))))))))");
        shows("1:12a 2:12b");
        query("u(u(u(u(u(u(u(u(u(u(u(A,A),A),A),A),A),A),A),A),A),A),A)");
        shows("1:12a 2:12b");
        query("p0(p0(p0(p0(p0(p0(p0(p0(p0(p0(p0(p0(p0(p0(A))))))))))))))");
        shows("1:a 2:b");
        query("s0=1(s0=1(s0=1(s0=1(s0=1(s0=1(s0=1(s0=1(p0(A)))))))))");
        shows("1:a");
        due("queryLength", x.queryLength(), 53);
    }
}
