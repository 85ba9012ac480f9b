/** The edges that the document names in its words: "Terms", one test for each sentence. */
public final class WordsEdgeTest extends Checks {
    /** Queries with 1 to 4 columns on the tables that queryOn makes. */
    private static final String[] OF_WIDTH = {"", "A", "B", "C", "j00(B,D)"};

    public static void main(String[] args) {
        WordsEdgeTest t = new WordsEdgeTest();
        t.calls();
        t.baseTables();
        t.baseRows();
        t.queries();
        t.fits();
        t.relations();
        t.tooManyRows();
        t.tooManyTerms();
        t.tooLargeWithin();
        t.currentQuery();
        t.termOrder();
        t.forms();
        t.evaluation();
        t.text();
        t.faultOfBegins();
        t.history();
        t.finish();
    }

    private void calls() {
        begin("An object is used for at most 512 calls");
        int tag = 0;
        for (int i = 0; i < 509; i++) {
            tag = x.addRow(i % 4, i % 100);
        }
        due("509th call, too many since the 17th", tag, TOO_MANY);
        due("510th call", x.tags(), 0xffff);
        due("511th call", x.undo(), 3);
        due("512th call", x.tags(), 0x7fff);
        begin("An object is used for at most 512 calls: all of them actions");
        x.addRow(0, 12);
        type("j00(A,A)");
        x.setQuery();
        for (int i = 0; i < 498; i++) {
            x.setWithdrawn(0, i % 2 == 1);
        }
        due("510th call", x.setWithdrawn(0, false), 1);
        due("511th call", x.undo(), 3);
        due("512th call", x.withdrawn(), 1);
    }

    // ---- base tables

    private void baseTables() {
        begin("There are four base tables, 0 to 3, written A to D");
        for (int table = 0; table < 4; table++) {
            rows(table, 10 + table);
        }
        String[] answers = {"10:a", "11:b", "12:c", "13:d"};
        for (int table = 0; table < 4; table++) {
            due("setQuery", query("ABCD".substring(table, table + 1)), 1);
            shows(answers[table]);
        }
        for (String none : new String[] {"@", "E", "a", "d", "0"}) {
            due("setQuery of " + none, query(none), BAD_TEXT);
        }
        begin("A base table has 1 to 3 columns (2 at first)");
        for (int table = 0; table < 4; table++) {
            due("columns at first", x.columns(table), 2);
            due("none", x.setColumns(table, 0), BAD_VALUE);
            due("1", x.setColumns(table, 1), 2);
            due("3", x.setColumns(table, 3), 1);
            due("4", x.setColumns(table, 4), BAD_VALUE);
            due("columns", x.columns(table), 3);
        }
        begin("columns, numbered from 0");
        widths(1, 2, 3);
        rows(0, 1);
        rows(1, 23);
        rows(2, 456);
        int[][] values = {{1}, {2, 3}, {4, 5, 6}};
        for (int tag = 0; tag < 3; tag++) {
            for (int column = 0; column < 4; column++) {
                int want = column <= tag ? values[tag][column] : NO_SUCH;
                due("value of column " + column, x.value(tag, column), want);
            }
            due("value of column -1", x.value(tag, -1), NO_SUCH);
        }
        begin("a base row has a value from 0 to 9 in each column");
        x.setColumns(0, 3);
        rows(0, 0, 999, 909, 90);
        int[][] digits = {{0, 0, 0}, {9, 9, 9}, {9, 0, 9}, {0, 9, 0}};
        for (int tag = 0; tag < 4; tag++) {
            for (int column = 0; column < 3; column++) {
                due("value", x.value(tag, column), digits[tag][column]);
            }
        }
    }

    private void baseRows() {
        for (int table = 0; table < 4; table++) {
            begin("There are at most 16 base rows in all tables together");
            for (int tag = 0; tag < 16; tag++) {
                due("addRow", x.addRow(tag % 4, tag), tag);
            }
            due("a 17th", x.addRow(table, 1), TOO_MANY);
            due("tags", x.tags(), 0xffff);
            begin("There are at most 16 base rows, also in one table");
            for (int tag = 0; tag < 16; tag++) {
                due("addRow", x.addRow(table, tag), tag);
            }
            due("a 17th in another table", x.addRow(3 - table, 1), TOO_MANY);
            due("a 17th", x.addRow(table, 1), TOO_MANY);
        }
        begin("the tag of a new base row is the least number from 0 to 15 that no base row has");
        sameRows(0, 12, 16);
        for (int tag : new int[] {15, 0, 7}) {
            x.dropRow(tag);
            due("the only free tag", x.addRow(1, 34), tag);
        }
        for (int tag : new int[] {9, 15, 2, 8}) {
            x.dropRow(tag);
        }
        for (int tag : new int[] {2, 8, 9, 15}) {
            due("the least free tag", x.addRow(1, 34), tag);
        }
        begin("Different base rows of a table can have the same values");
        rows(2, 77, 77);
        due("tags", x.tags(), 3);
        due("values", x.value(0, 0) + x.value(0, 1) + x.value(1, 0) + x.value(1, 1), 28);
        for (int before : new int[] {0, 7, 100}) {
            begin("cost 1 at first, trust 100 at first, not withdrawn at first, also of a tag that was there before");
            rows(0, 12, 34);
            x.setCost(1, before);
            x.setTrust(1, before);
            x.setWithdrawn(1, true);
            x.dropRow(1);
            rows(0, 34);
            for (int tag = 0; tag < 2; tag++) {
                due("cost", x.cost(tag), 1);
                due("trust", x.trust(tag), 100);
            }
            due("withdrawn", x.withdrawn(), 0);
        }
    }

    // ---- queries

    /** On empty tables with 1, 2, 3 and 2 columns. */
    private int queryOn(String sentence, String line) {
        begin(sentence);
        widths(1, 2, 3, 2);
        return query(line);
    }

    private void isFault(String sentence, String line, int want) {
        begin(sentence);
        type(line);
        due("fault of " + line, x.fault(), want);
    }

    private void queries() {
        for (String around : new String[] {"s!=0(A)", "s!~0(A)", "s0~!(A)", "p!(A)", "p0!(A)", "p012!(A)", "j!0(A,A)",
            "j0!(A,A)"}) {
            for (int column = 0; column < 4; column++) {
                isFault("column = 0 to 3", around.replace("!", "" + column), NONE);
            }
            for (String none : new String[] {"4", "9", "/", "a"}) {
                isFault("column = 0 to 3", around.replace("!", none), around.indexOf('!'));
            }
        }
        for (int digit = 0; digit < 10; digit++) {
            isFault("digit = 0 to 9", "s0=" + digit + "(A)", NONE);
        }
        isFault("digit = 0 to 9", "s0=/(A)", 3);
        isFault("digit = 0 to 9", "s0=:(A)", 3);
        isFault("without blanks", "p0 (A)", 2);
        isFault("A project names 1 to 4 columns: none", "p(A)", 1);
        isFault("A project names 1 to 4 columns: one", "p3(A)", NONE);
        isFault("A project names 1 to 4 columns: four", "p0123(A)", NONE);
        isFault("a fifth one is a fault of the text", "p01230(A)", 5);
        isFault("a fifth one is a fault of the text, also within", "u(A,p33333(A))", 9);
        begin("it can name a column several times");
        rows(0, 12);
        query("p1111(A)");
        shows("2222:a");
        query("p1011(A)");
        shows("2122:a");
        String[][] wide = {{"A", "s0=0(A)", "s0~0(A)", "p0(C)", "u(A,p0(B))"},
            {"B", "s1=0(B)", "s1~0(B)", "p21(C)", "j00(A,A)", "u(B,p00(A))"},
            {"C", "s2=0(C)", "s2~0(C)", "p000(A)", "j00(A,B)", "j00(B,A)", "u(C,p000(A))"},
            {"p0000(A)", "s3=0(p0000(A))", "j00(A,C)", "j00(C,A)", "j00(B,B)", "u(j00(A,C),p0000(A))"}};
        for (int width = 1; width <= 4; width++) {
            for (String line : wide[width - 1]) {
                due("setQuery", queryOn("Each query has a number of columns: " + line, line), 0);
                due("answerColumns", x.answerColumns(), width);
            }
        }
    }

    private void fits() {
        for (int width = 1; width <= 4; width++) {
            String part = OF_WIDTH[width];
            for (int column = 0; column < 4; column++) {
                int want = column < width ? 0 : NOT_POSSIBLE;
                for (String head : new String[] {"s!=0", "s!~0", "s0~!", "s!~!", "p!", "p0!", "p!0", "p000!", "p!000"}) {
                    String line = head.replace("!", "" + column) + "(" + part + ")";
                    due(line, queryOn("a select and a project name only columns of the query in the parentheses", line), want);
                }
                if (width < 4) {
                    String first = "j" + column + "0(" + part + ",A)";
                    due(first, queryOn("the first column that a join names is a column of its first query", first), want);
                    String second = "j0" + column + "(A," + part + ")";
                    due(second, queryOn("the second one is a column of its second query", second), want);
                }
            }
            for (int other = 1; other <= 4; other++) {
                String union = "u(" + part + "," + OF_WIDTH[other] + ")";
                due(union, queryOn("the two queries of a union have the same number of columns", union),
                        width == other ? 0 : NOT_POSSIBLE);
                String join = "j00(" + part + "," + OF_WIDTH[other] + ")";
                due(join, queryOn("no query has more than 4 columns", join), width + other <= 4 ? 0 : NOT_POSSIBLE);
            }
        }
        fitsWithin();
    }

    private void fitsWithin() {
        String[] around = {"p0(!)", "s0=0(!)", "s0~0(!)", "j00(!,A)", "j00(A,!)", "u(p0(!),A)", "u(A,p0(!))",
            "p0(s0=1(p0(!)))"};
        for (String place : around) {
            for (String misfit : new String[] {"s1=0(A)", "s1~0(A)", "s0~1(A)", "p1(A)", "j10(A,A)", "j01(A,A)",
                "u(A,B)", "j00(C,D)"}) {
                String line = place.replace("!", misfit);
                due(line, queryOn("all of the following holds for it and for all queries within it", line), NOT_POSSIBLE);
            }
            String line = place.replace("!", "p0(s1=0(B))");
            due(line, queryOn("all of the following holds for it and for all queries within it", line), 0);
        }
    }

    // ---- relations and polynomials

    private void relations() {
        begin("(a + b) * (a + b) is a^2 + 2ab + b^2");
        x.setColumns(0, 1);
        rows(0, 5, 5);
        query("j00(A,A)");
        shows("55:a^2+2ab+b^2");
        begin("no two rows of a relation have the same values");
        rows(0, 12, 12, 13);
        due("rows", query("A"), 2);
        due("rows of a project", query("p0(A)"), 1);
        due("rows of a union", query("u(A,A)"), 2);
        shows("12:2a+2b 13:2c");
        begin("withdrawn base rows are treated like the others");
        rows(0, 12, 12, 34);
        for (int tag = 0; tag < 3; tag++) {
            x.setWithdrawn(tag, true);
        }
        query("A");
        shows("12:a+b 34:c");
        begin("Each query has a relation: without rows");
        rows(0, 12);
        for (String line : new String[] {"B", "s0=2(A)", "s0~1(A)", "p0(B)", "j01(A,A)", "j00(A,B)", "j00(B,A)", "u(B,B)"}) {
            due(line, query(line), 0);
        }
        begin("the select has the rows for which the value in the column is the digit, 0 or 9, too");
        rows(0, 9, 90, 99);
        query("s0=0(A)");
        shows("09:a");
        query("s0=9(A)");
        shows("90:b 99:c");
        query("s1=0(A)");
        shows("90:b");
        begin("for which the values in both columns are the same, also when it is one column");
        rows(0, 12, 33);
        query("s1~1(A)");
        shows("12:a 33:b");
        query("s0~1(A)");
        shows("33:b");
        query("s1~0(A)");
        shows("33:b");
        begin("in the order in which they are named");
        x.setColumns(0, 3);
        rows(0, 123, 124, 223);
        query("p2010(A)");
        shows("3121:a 3222:c 4121:b");
        query("p10(A)");
        shows("21:a+b 22:c");
        begin("the value of the former in the first named column is the value of the latter in the second named column");
        rows(0, 12, 21);
        rows(1, 13, 31);
        query("j00(A,B)");
        shows("1213:ac");
        query("j01(A,B)");
        shows("1231:ad");
        query("j10(A,B)");
        shows("2113:bc");
        query("j11(A,B)");
        shows("2131:bd");
        begin("a row that both have gets the sum of both polynomials");
        rows(0, 12, 34);
        rows(1, 12, 56);
        query("u(B,A)");
        shows("12:a+c 34:b 56:d");
        begin("ascending order of their values in the column 0, in the column 1, and so on");
        rows(0, 21, 12, 20, 10, 99, 0);
        rows(1, 21, 12, 20, 10, 99, 0);
        query("s0=2(j00(A,B))");
        shows("2020:ci 2021:cg 2120:ai 2121:ag");
        query("A");
        shows("00:f 10:d 12:b 20:c 21:a 99:e");
    }

    /** A join of 32 rows of 4 columns; its 12 base rows leave room. */
    private void rowsFor32() {
        rows(0, 10, 11, 12, 13);
        rows(1, 10, 11, 12, 13, 14, 15, 16, 17);
    }

    private void tooManyRows() {
        begin("more than 32 rows: a join of 32");
        rowsFor32();
        rows(0, 20);
        due("32 rows", query("j00(A,B)"), 32);
        due("a 33rd", x.addRow(1, 25), TOO_MANY);
        due("another that joins with none", x.addRow(1, 35), 13);
        begin("more than 32 rows: a join of 33");
        rowsFor32();
        rows(0, 20);
        rows(1, 25);
        due("33 rows", query("j00(A,B)"), TOO_MANY);
        begin("more than 32 rows: a union of 32, where one row is in both");
        rowsFor32();
        rows(2, 10);
        due("32 rows", query("u(j00(A,B),p0101(C))"), 32);
        due("a 33rd", x.addRow(2, 11), 13);
        due("answerRows", x.answerRows(), 32);
        due("a 33rd", x.addRow(2, 18), TOO_MANY);
        begin("more than 32 rows: a union of 33");
        rowsFor32();
        rows(2, 18);
        due("33 rows", query("u(j00(A,B),p0101(C))"), TOO_MANY);
        due("33 rows", query("u(p0101(C),j00(A,B))"), TOO_MANY);
        due("16 rows of a project of 32 rows", query("p03(j00(A,B))"), 8);
    }

    /** As many rows with the value 1 in the tables A and B of one column. */
    private void ones(int first, int second) {
        widths(1, 1, 1);
        sameRows(0, 1, first);
        sameRows(1, 1, second);
    }

    private void tooManyTerms() {
        begin("more than 32 terms: a join of 32");
        ones(4, 8);
        due("32 terms", query("j00(A,B)"), 1);
        due("terms", x.terms(0, 0), 32);
        begin("more than 32 terms: a join of 33");
        ones(3, 11);
        due("33 terms", query("j00(A,B)"), TOO_MANY);
        begin("more than 32 terms: a union of 32 and 33");
        ones(4, 8);
        due("32 terms", query("u(p0(j00(A,B)),C)"), 1);
        due("a 33rd in another row", x.addRow(2, 2), 12);
        due("a 33rd", x.addRow(2, 1), TOO_MANY);
        due("the same terms twice", query("u(j00(A,B),j00(A,B))"), 1);
        due("terms", x.terms(0, 0), 32);
        due("coefficient", x.coefficient(0, 0, 31), 2);
        begin("more than 32 terms: a project of 32");
        rowsFor32();
        due("32 terms", query("p0(j00(A,B))"), 1);
        due("terms", x.terms(0, 0), 32);
        begin("more than 32 terms: a project of 33");
        rows(0, 10, 11, 11);
        rows(1, 10, 11, 12, 13, 14, 15, 16, 17, 17, 17, 17);
        due("16 rows of less terms", query("j00(A,B)"), 16);
        due("33 terms", query("p0(j00(A,B))"), TOO_MANY);
        begin("more than 32 terms: in the last row");
        ones(4, 8);
        rows(0, 0);
        rows(1, 0);
        due("32 terms", query("j00(A,B)"), 2);
        due("terms", x.terms(1, 0), 32);
        due("36 terms", x.addRow(1, 1), TOO_MANY);
        due("2 terms in the other row", x.addRow(1, 0), 14);
    }

    private void tooLargeWithin() {
        String[] around = {"p0(!)", "s0=7(!)", "s0~1(!)", "j00(p0(s0=7(!)),C)", "j00(C,p0(s0=7(!)))", "u(p0(s0=7(!)),C)",
            "u(C,p0(s0=7(!)))"};
        for (String place : around) {
            begin("the relation of a query within it is too large: rows");
            x.setColumns(2, 1);
            rowsFor32();
            String line = place.replace("!", "s0=7(j00(A,B))");
            due(line + " with 32 rows", query(line), 0);
            due(line + " with 36 rows", x.addRow(1, 18), TOO_MANY);
            x.dropQuery();
            due("without a query", x.addRow(1, 18), 12);
            due(line + " with 36 rows", query(line), TOO_MANY);
            begin("the relation of a query within it is too large: terms");
            ones(4, 8);
            line = place.replace("!", "s0=7(j00(A,B))");
            due(line + " with 32 terms", query(line), 0);
            due(line + " with 36 terms", x.addRow(1, 1), TOO_MANY);
            x.dropQuery();
            due("without a query", x.addRow(1, 1), 12);
            due(line + " with 36 terms", query(line), TOO_MANY);
        }
    }

    private void currentQuery() {
        begin("There is a current query, or none (none at first)");
        rows(0, 12);
        type("A");
        due("queryLength", x.queryLength(), 0);
        due("dropQuery", x.dropQuery(), NOT_POSSIBLE);
        x.setQuery();
        due("queryLength", x.queryLength(), 1);
        begin("without a current query, the answer has no rows and no columns");
        rows(0, 12);
        due("answerRows", x.answerRows(), 0);
        due("answerColumns", x.answerColumns(), 0);
        due("setWithdrawn", x.setWithdrawn(0, false), 0);
        query("A");
        x.dropQuery();
        rows(0, 13);
        due("answerRows after dropQuery", x.answerRows(), 0);
        due("answerColumns after dropQuery", x.answerColumns(), 0);
        x.dropRow(1);
        due("answerRows after dropRow", x.answerRows(), 0);
        due("answerColumns after dropRow", x.answerColumns(), 0);
    }

    // ---- forms

    /** The eighth power of the sum of the rows of A; no text has room for a greater one. */
    private static final String EIGHTH = "j00(p0(j00(j00(A,A),j00(A,A))),p0(j00(j00(A,A),j00(A,A))))";

    private void termOrder() {
        begin("the monomial in which this tag has the greater exponent comes first");
        x.setColumns(0, 1);
        rows(0, 1, 1);
        query(EIGHTH);
        prints(0, 0, "a^8+8a^7b+28a^6b^2+56a^5b^3+70a^4b^4+56a^3b^5+28a^2b^6+8ab^7+b^8");
        begin("consider the least tag whose exponents differ, of the tags 0 to 15");
        widths(1, 1);
        sameRows(1, 5, 14);
        rows(0, 1, 1);
        x.dropRow(0);
        due("the tag 0 again", x.addRow(0, 1), 0);
        query("j00(A,A)");
        prints(0, 0, "a^2+2ao+2ap+o^2+2op+p^2");
        begin("the greatest exponents of the greatest tags");
        widths(1, 1);
        sameRows(1, 5, 14);
        rows(0, 1, 1);
        query(EIGHTH);
        prints(0, 0, "o^8+8o^7p+28o^6p^2+56o^5p^3+70o^4p^4+56o^3p^5+28o^2p^6+8op^7+p^8");
        due("exponent o", x.exponent(0, 0, 0, 14), 8);
        due("exponent p", x.exponent(0, 0, 0, 15), 0);
        due("exponent p", x.exponent(0, 0, 8, 15), 8);
        prints(0, 2, "254op+o+p");
        begin("the exponent of a tag that does not occur is 0");
        widths(1, 1);
        rows(0, 1);
        rows(1, 1);
        query("u(u(A,B),p0(j00(u(A,B),u(A,B))))");
        prints(0, 0, "a^2+2ab+a+b^2+b");
    }

    private void forms() {
        begin("Form 0 is the polynomial itself: one term");
        widths(1, 1, 1);
        rows(0, 1);
        query("A");
        for (int form = 0; form < 5; form++) {
            prints(0, form, "a");
        }
        begin("Form 1 is the polynomial with each coefficient replaced by 1; the exponents stay");
        widths(1, 1, 1);
        rows(0, 1, 1);
        query("j00(u(A,A),A)");
        prints(0, 0, "2a^2+4ab+2b^2");
        prints(0, 1, "a^2+ab+b^2");
        begin("Form 2: terms that have the same monomial then are combined by adding their coefficients");
        widths(1, 1, 1);
        rows(0, 1, 1);
        query("u(A,p0(j00(j00(A,A),A)))");
        prints(0, 0, "a^3+3a^2b+3ab^2+a+b^3+b");
        prints(0, 2, "6ab+2a+2b");
        begin("Form 3 is the form 2 with each coefficient replaced by 1");
        widths(1, 1, 1);
        rows(0, 1, 1);
        query("u(A,p0(j00(j00(A,A),A)))");
        prints(0, 3, "ab+a+b");
        begin("Form 4: whose set of tags does not contain the set of tags of another term of the form 3");
        widths(1, 1, 1);
        rows(0, 1, 1);
        rows(1, 1);
        rows(2, 1);
        query("p0(j00(j00(A,B),B))");
        prints(0, 4, "ac+bc");
        query("u(p0(j00(B,C)),p0(j00(j00(A,B),C)))");
        prints(0, 3, "acd+bcd+cd");
        prints(0, 4, "cd");
        query("u(p0(j00(A,B)),p0(j00(A,C)))");
        prints(0, 4, "ac+ad+bc+bd");
        query("u(B,u(C,p0(j00(A,p0(j00(B,C))))))");
        prints(0, 3, "acd+bcd+c+d");
        prints(0, 4, "c+d");
    }

    // ---- evaluation

    private void evaluation() {
        begin("A term is available if no base row with one of its tags is withdrawn");
        widths(1, 1, 1);
        rows(0, 1);
        rows(1, 1);
        rows(2, 1);
        query("u(p0(j00(j00(A,B),C)),A)");
        prints(0, 0, "abc+a");
        due("all", x.derivations(0), 2);
        x.setWithdrawn(1, true);
        due("without b", x.derivations(0), 1);
        x.setWithdrawn(1, false);
        x.setWithdrawn(2, true);
        due("without c", x.derivations(0), 1);
        due("A row is present if its polynomial has an available term", x.setWithdrawn(1, true), 1);
        due("without any", x.setWithdrawn(0, true), 0);
        begin("the sum of the costs, each multiplied by the exponent of the tag");
        x.setColumns(0, 1);
        rows(0, 1);
        x.setCost(0, 999);
        query(EIGHTH);
        due("999 eight times", x.leastCost(0), 7992);
        x.setCost(0, 0);
        due("0 eight times", x.leastCost(0), 0);
        begin("The trust of a term is the least trust of the base rows with its tags");
        widths(1, 1, 1);
        rows(0, 1);
        rows(1, 1);
        rows(2, 1);
        x.setTrust(0, 40);
        x.setTrust(1, 30);
        x.setTrust(2, 50);
        query("j00(j00(A,B),C)");
        due("the least in the middle", x.answerTrust(0), 30);
        x.setTrust(1, 100);
        due("the least at first", x.answerTrust(0), 40);
        x.setTrust(2, 0);
        due("the least at last", x.answerTrust(0), 0);
        begin("it is multiplied by the trust divided by 100.0f, as often as the exponent says");
        x.setColumns(0, 1);
        rows(0, 1);
        query(EIGHTH);
        due("100 eight times", x.confidence(0), 1.0f);
        for (int trust = 0; trust <= 99; trust += 11) {
            x.setTrust(0, trust);
            float want = 1.0f;
            for (int i = 0; i < 8; i++) {
                want = want * ((float) trust / 100.0f);
            }
            due(trust + " eight times", x.confidence(0), want);
        }
    }

    // ---- text

    private void text() {
        begin("There is a text of at most 60 characters (empty at first)");
        due("length at first", x.clearText(), 0);
        for (int length = 1; length <= 60; length++) {
            due("append", x.append('~'), length);
        }
        due("a 61st", x.append('~'), TOO_MANY);
        due("length", x.clearText(), 60);
        due("room again", x.append('~'), 1);
        begin("a query of 60 characters");
        rows(0, 12);
        String full = "p0(u(A,u(A,u(A,u(A,u(A,u(A,u(A,u(A,u(A,u(A,u(A,A))))))))))))";
        due("its length", full.length(), 60);
        due("setQuery", query(full), 1);
        due("fault", x.fault(), NONE);
        shows("1:12a");
        begin("a query of 60 characters, nested the other way");
        rows(0, 12);
        due("setQuery", query("p0(u(u(u(u(u(u(u(u(u(u(u(A,A),A),A),A),A),A),A),A),A),A),A))"), 1);
        due("clearText", x.clearText(), 60);
        shows("1:12a");
        isFault("a query of 61 characters has no room", full + ")", NONE);
        due("length", x.clearText(), 60);
        isFault("a fault at the 60th character", full.substring(0, 59) + ",", 59);
        isFault("a fault behind a part, deep within", "u(p0(A)," + "u(A,".repeat(11) + "u(A(", 55);
        isFault("the fault is the length of the text: 60", "p0(".repeat(20), 60);
        isFault("the fault is the length of the text: 0", "", 0);
        isFault("the first character", " ", 0);
        isFault("the first of several faults", "u(A;,;", 3);
        isFault("behind a query", "AA", 1);
        isFault("behind a query in parentheses", "p0(A))", 5);
    }

    /** Each begin of a query has its length as fault, and each other sign in a place is the fault. */
    private void faultOfBegins() {
        begin("the fault is that of the text as it is now");
        String line = "u(s0=5(A),p01(B))";
        for (int round = 0; round < 3; round++) {
            for (int at = 0; at < line.length(); at++) {
                due("fault of a begin", x.fault(), at);
                x.append(line.charAt(at));
            }
            due("fault of the whole", x.fault(), NONE);
            x.append('A');
            due("fault behind", x.fault(), line.length());
            x.append('A');
            due("fault behind", x.fault(), line.length());
            due("length", x.clearText(), line.length() + 2);
            type("j00(u(");
            due("fault of another begin", x.fault(), 6);
            x.clearText();
        }
        String[] lines = {"u(s0=5(A),p0123(j10(B,s2~3(C))))", "j33(u(A,B),p0(D))"};
        String[][] allowed = {{"ABCDspju", "(", "ABCDspju", "0123", "=~", "0123456789", "(", "ABCDspju", ")", ",",
            "ABCDspju", "0123", "0123(", "0123(", "0123(", "(", "ABCDspju", "0123", "0123", "(", "ABCDspju", ",",
            "ABCDspju", "0123", "=~", "0123", "(", "ABCDspju", ")", ")", ")", ")", ""},
            {"ABCDspju", "0123", "0123", "(", "ABCDspju", "(", "ABCDspju", ",", "ABCDspju", ")", ",", "ABCDspju", "0123",
                "0123(", "ABCDspju", ")", ")", ""}};
        for (int i = 0; i < lines.length; i++) {
            for (int at = 0; at <= lines[i].length(); at++) {
                String begun = lines[i].substring(0, at);
                isFault("the fault is the length of the text", begun, at == lines[i].length() ? NONE : at);
                for (char c = 32; c < 127; c++) {
                    if (allowed[i][at].indexOf(c) < 0) {
                        isFault("the index of the first character such that no query begins so", begun + c, at);
                    }
                }
            }
        }
        isFault("Whether a query fits the tables does not matter for the fault", "u(p3(A),j33(B,B))", NONE);
        begin("Whether a query fits the tables does not matter for the fault");
        x.setColumns(0, 1);
        due("setQuery", query("s3=0(A)"), NOT_POSSIBLE);
        due("fault", x.fault(), NONE);
    }

    // ---- actions and history

    private void history() {
        begin("Each action that returns no error code records the state, even if it changes nothing");
        due("setColumns", x.setColumns(3, 2), 2);
        due("history", historySize(), 1);
        rows(0, 12);
        due("setCost", x.setCost(0, 1), 1);
        due("setTrust", x.setTrust(0, 100), 100);
        due("setWithdrawn", x.setWithdrawn(0, false), 0);
        due("history", historySize(), 4);
        rows(0, 12);
        query("A");
        due("setQuery", x.setQuery(), 1);
        due("history", historySize(), 3);
        begin("each of the actions records");
        due("setColumns", x.setColumns(0, 3), 2);
        due("addRow", x.addRow(0, 123), 0);
        due("setCost", x.setCost(0, 5), 1);
        due("setTrust", x.setTrust(0, 6), 100);
        due("trust undone", x.undo() * 1000 + x.trust(0), 3100);
        due("cost undone", x.undo() * 1000 + x.cost(0), 2001);
        due("row undone", x.undo() * 1000 + x.tags(), 1000);
        due("columns undone", x.undo() * 1000 + x.columns(0), 2);
        rows(0, 12);
        query("A");
        due("setWithdrawn", x.setWithdrawn(0, true), 0);
        due("dropRow", x.dropRow(0), 0);
        due("dropQuery", x.dropQuery(), 0);
        due("query undone", x.undo() * 1000 + x.queryLength(), 3001);
        due("row undone", x.undo() * 1000 + x.tags(), 2001);
        due("withdrawn undone", x.undo() * 1000 + x.withdrawn(), 1000);
        due("setQuery undone", x.undo() * 1000 + x.queryLength(), 0);
        historyRoom();
    }

    private void historyRoom() {
        for (int actions = 0; actions <= 12; actions++) {
            begin("The history holds at most 4 states; when a fifth is recorded, the oldest one is dropped");
            for (int tag = 0; tag < actions; tag++) {
                rows(0, tag);
            }
            for (int left = Math.min(actions, 4) - 1; left >= 0; left--) {
                due("states left", x.undo(), left);
            }
            due("none left", x.undo(), NONE);
            due("base rows that stay", Integer.bitCount(x.tags()), Math.max(actions - 4, 0));
        }
        begin("The text, the printed polynomial and the history itself are not part of the state");
        rows(0, 12);
        query("A");
        x.print(0, 0);
        x.addRow(0, 12);
        type("p0(");
        x.print(0, 0);
        due("undo", x.undo(), 2);
        due("the text stays", x.fault(), 3);
        due("the printed polynomial stays", paper(), "a+b");
        due("an action after undo", x.addRow(0, 34), 1);
        due("history", historySize(), 3);
        due("the text stays", x.clearText(), 3);
        due("the printed polynomial stays", paper(), "a+b");
        begin("append, clearText, print and undo are not actions");
        x.append('A');
        x.clearText();
        rows(0, 12);
        query("A");
        x.print(0, 0);
        x.fault();
        due("history", historySize(), 2);
    }
}
