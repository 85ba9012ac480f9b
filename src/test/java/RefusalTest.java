/**
 * "A method that returns an error code changes nothing", for each error code of each method: two
 * objects that were filled alike are held against each other, one of them after the refused call.
 */
public final class RefusalTest extends Checks {
    /** A change of an object, or the refused call. */
    private interface Call {
        int on(RefusalTest t);
    }

    private String name = "";
    private Call filling = t -> 0;

    public static void main(String[] args) {
        RefusalTest t = new RefusalTest();
        t.actionsOnTables();
        t.actionsThatAreTooMany();
        t.actionsOnQuery();
        t.textAndUndo();
        t.readers();
        t.finish();
    }

    /** Begins the refused calls of a method on objects that were filled so. */
    private void method(String method, Call filledSo) {
        name = method;
        filling = filledSo;
    }

    private void refused(String call, int code, Call refusedCall) {
        begin(name);
        filling.on(this);
        String want = everything();
        begin(name);
        filling.on(this);
        due(call, refusedCall.on(this), code);
        due("all after " + call, everything(), want);
    }

    // ---- all that can be seen of an object

    private String everything() {
        StringBuilder all = new StringBuilder("printed ").append(paper()).append(", fault ").append(x.fault());
        seeState(all);
        for (int left = x.undo(); left >= 0; left = x.undo()) {
            all.append("\nundo ").append(left);
            seeState(all);
        }
        all.append("\ntext ").append(x.setQuery());
        seeQuery(all);
        return all.append(' ').append(x.clearText()).toString();
    }

    private void seeState(StringBuilder all) {
        int tags = x.tags();
        all.append(" withdrawn ").append(x.withdrawn()).append(" columns ");
        for (int table = 0; table < 4; table++) {
            all.append(x.columns(table));
        }
        for (int tag = 0; tag < 16; tag++) {
            if ((tags >> tag & 1) != 0) {
                all.append(' ').append(tag).append(':').append("ABCD".charAt(x.tableOf(tag)));
            }
        }
        // in the objects of 16 or 15 rows these calls would be more than 512
        for (int tag = 0; tag < 3 && tags < 8; tag++) {
            all.append(" /").append(x.value(tag, 0)).append(x.value(tag, 1)).append(' ').append(x.cost(tag)).append(' ')
                    .append(x.trust(tag));
        }
        seeQuery(all);
        for (int row = 0; row < x.answerRows(); row++) {
            all.append(' ').append(x.answerValue(row, 0)).append(' ').append(x.lineage(row)).append(' ')
                    .append(x.derivations(row));
        }
    }

    private void seeQuery(StringBuilder all) {
        all.append(" query ");
        for (int i = 0; x.queryAt(i) >= 0; i++) {
            all.append((char) x.queryAt(i));
        }
    }

    // ---- objects

    /** Three rows, a query, another text, a printed polynomial and a full history. */
    private int full() {
        rows(0, 12, 34);
        rows(1, 12);
        query("u(A,B)");
        x.setCost(0, 5);
        x.setTrust(1, 6);
        x.setWithdrawn(2, true);
        x.print(0, 0);
        type("p1(B)");
        return 0;
    }

    /** Two states in the history, where a third one would be seen as well. */
    private int half() {
        full();
        x.undo();
        return x.undo();
    }

    /** No query and no state in the history. */
    private int early() {
        half();
        x.undo();
        return x.undo();
    }

    private int sixteen() {
        sameRows(0, 12, 16);
        query("A");
        return 0;
    }

    /** One more row of the value 1 would be too many for the query; so would the text be. */
    private int nearlyTooLarge() {
        x.setColumns(0, 1);
        sameRows(0, 1, 7);
        query("j00(A,A)");
        type("p0(j00(u(A,A),j00(A,A)))");
        return 0;
    }

    // ---- the refused calls

    private void actionsOnTables() {
        for (Call state : new Call[] {RefusalTest::full, RefusalTest::half, RefusalTest::early}) {
            method("2 setColumns", state);
            refused("no such table", NO_SUCH, t -> t.x.setColumns(4, 3));
            refused("columns out of range", BAD_VALUE, t -> t.x.setColumns(3, 4));
            refused("a base row", NOT_POSSIBLE, t -> t.x.setColumns(0, 3));
            method("3 addRow", state);
            refused("no such table", NO_SUCH, t -> t.x.addRow(4, 12));
            refused("values below 0", BAD_VALUE, t -> t.x.addRow(0, -1));
            refused("values of more digits", BAD_VALUE, t -> t.x.addRow(0, 100));
            method("4 dropRow", state);
            refused("no such base row", NO_SUCH, t -> t.x.dropRow(3));
            refused("no such base row", NO_SUCH, t -> t.x.dropRow(16));
            refused("no such base row", NO_SUCH, t -> t.x.dropRow(32));
            refused("no such base row", NO_SUCH, t -> t.x.dropRow(-1));
            method("5 setCost", state);
            refused("no such base row", NO_SUCH, t -> t.x.setCost(3, 9));
            refused("no such base row", NO_SUCH, t -> t.x.setCost(32, 9));
            refused("cost out of range", BAD_VALUE, t -> t.x.setCost(0, 1000));
            refused("cost out of range", BAD_VALUE, t -> t.x.setCost(0, -1));
            method("6 setTrust", state);
            refused("no such base row", NO_SUCH, t -> t.x.setTrust(3, 9));
            refused("no such base row", NO_SUCH, t -> t.x.setTrust(32, 9));
            refused("trust out of range", BAD_VALUE, t -> t.x.setTrust(0, 101));
            refused("trust out of range", BAD_VALUE, t -> t.x.setTrust(0, -1));
            method("7 setWithdrawn", state);
            refused("no such base row", NO_SUCH, t -> t.x.setWithdrawn(3, true));
            refused("no such base row", NO_SUCH, t -> t.x.setWithdrawn(32, true));
            refused("no such base row", NO_SUCH, t -> t.x.setWithdrawn(-1, true));
        }
    }

    private void actionsThatAreTooMany() {
        method("2 setColumns", t -> t.half() + t.x.dropRow(2));
        refused("in the current query", NOT_POSSIBLE, t -> t.x.setColumns(1, 3));
        method("3 addRow", RefusalTest::sixteen);
        refused("16 base rows", TOO_MANY, t -> t.x.addRow(1, 12));
        method("3 addRow", t -> t.sixteen() + t.x.undo() + t.x.undo() + t.x.addRow(0, 11));
        refused("16 base rows", TOO_MANY, t -> t.x.addRow(1, 12));
        method("3 addRow", RefusalTest::nearlyTooLarge);
        refused("the current query would be too large", TOO_MANY, t -> t.x.addRow(0, 1));
        method("3 addRow", t -> t.nearlyTooLarge() + t.x.undo() + t.x.undo() + t.query("p0(j00(A,A))") + t.x.addRow(0, 1));
        refused("the current query would be too large", TOO_MANY, t -> t.x.addRow(0, 1));
    }

    private void actionsOnQuery() {
        for (Call state : new Call[] {RefusalTest::full, RefusalTest::half, RefusalTest::early}) {
            method("8 setQuery", t -> {
                state.on(t);
                t.type("s0=1(A");
                return 0;
            });
            refused("BAD_TEXT", BAD_TEXT, t -> t.x.setQuery());
            method("8 setQuery", t -> {
                state.on(t);
                t.type("p2(A)");
                return 0;
            });
            refused("NOT_POSSIBLE", NOT_POSSIBLE, t -> t.x.setQuery());
        }
        method("8 setQuery", RefusalTest::nearlyTooLarge);
        refused("TOO_MANY", TOO_MANY, t -> t.x.setQuery());
        method("8 setQuery", t -> t.nearlyTooLarge() + t.x.undo() + t.x.undo());
        refused("TOO_MANY", TOO_MANY, t -> t.x.setQuery());
        method("9 dropQuery", t -> t.full() + t.x.dropQuery());
        refused("there is no current query", NOT_POSSIBLE, t -> t.x.dropQuery());
        method("9 dropQuery", t -> 0);
        refused("there is no current query", NOT_POSSIBLE, t -> t.x.dropQuery());
    }

    private void textAndUndo() {
        method("10 append", RefusalTest::full);
        refused("character out of range", BAD_VALUE, t -> t.x.append(31));
        refused("character out of range", BAD_VALUE, t -> t.x.append(127));
        refused("character out of range", BAD_VALUE, t -> t.x.append(65536 + 'A'));
        method("10 append", t -> {
            t.full();
            t.type("p0(u(B,u(A,u(A,u(A,u(A,u(A,u(A,u(A,u(A,u(A,u(A,A))))))))))))");
            return 0;
        });
        refused("60 characters", TOO_MANY, t -> t.x.append('A'));
        method("13 undo", t -> t.full() + t.x.undo() + t.x.undo() + t.x.undo() + t.x.undo());
        refused("the history is empty", NONE, t -> t.x.undo());
        method("13 undo", t -> 0);
        refused("the history is empty", NONE, t -> t.x.undo());
    }

    private void readers() {
        method("14 to 40, refused", RefusalTest::full);
        refused("columns", NO_SUCH, t -> t.x.columns(4));
        refused("tableOf", NO_SUCH, t -> t.x.tableOf(3));
        refused("value", NO_SUCH, t -> t.x.value(0, 2));
        refused("cost", NO_SUCH, t -> t.x.cost(3));
        refused("trust", NO_SUCH, t -> t.x.trust(3));
        refused("queryAt", NO_SUCH, t -> t.x.queryAt(6));
        refused("answerValue", NO_SUCH, t -> t.x.answerValue(2, 0));
        refused("terms", NO_SUCH, t -> t.x.terms(2, 0));
        refused("terms", BAD_VALUE, t -> t.x.terms(0, 5));
        refused("coefficient", NO_SUCH, t -> (int) t.x.coefficient(0, 0, 2));
        refused("coefficient", BAD_VALUE, t -> (int) t.x.coefficient(0, 5, 0));
        refused("exponent", NO_SUCH, t -> t.x.exponent(0, 0, 2, 0));
        refused("exponent", BAD_VALUE, t -> t.x.exponent(0, 0, 0, 16));
        refused("lineage", NO_SUCH, t -> t.x.lineage(2));
        refused("derivations", NO_SUCH, t -> (int) t.x.derivations(2));
        refused("leastCost", NO_SUCH, t -> t.x.leastCost(2));
        refused("cheapestTags", NO_SUCH, t -> t.x.cheapestTags(2));
        refused("answerTrust", NO_SUCH, t -> t.x.answerTrust(2));
        refused("confidence", NO_SUCH, t -> (int) t.x.confidence(2));
        refused("needed", NO_SUCH, t -> t.x.needed(2));
        refused("smallestCut", NO_SUCH, t -> t.x.smallestCut(2));
        refused("worlds", NO_SUCH, t -> t.x.worlds(2));
        refused("lostIf", BAD_VALUE, t -> t.x.lostIf(8));
        refused("print", NO_SUCH, t -> t.x.print(2, 0));
        refused("print", BAD_VALUE, t -> t.x.print(0, 5));
        refused("printed", NO_SUCH, t -> t.x.printed(3));
        method("14 to 40, these methods change nothing", RefusalTest::full);
        refused("fault", NONE, t -> t.x.fault());
        refused("tags", 7, t -> t.x.tags());
        refused("withdrawn", 4, t -> t.x.withdrawn());
        refused("answerRows", 2, t -> t.x.answerRows());
        refused("terms", 2, t -> t.x.terms(0, 4));
        refused("coefficient", 1, t -> (int) t.x.coefficient(0, 4, 1));
        refused("exponent", 1, t -> t.x.exponent(0, 4, 1, 2));
        refused("derivations", 1, t -> (int) t.x.derivations(0));
        refused("leastCost", 5, t -> t.x.leastCost(0));
        refused("cheapestTags", 1, t -> t.x.cheapestTags(0));
        refused("answerTrust", 100, t -> t.x.answerTrust(0));
        refused("confidence", 1, t -> (int) t.x.confidence(0));
        refused("needed", 1, t -> t.x.needed(0));
        refused("smallestCut", 1, t -> t.x.smallestCut(0));
        refused("worlds", 3, t -> t.x.worlds(0));
        refused("lostIf", 2, t -> t.x.lostIf(7));
    }
}
