/** The calls that README.md shows answer what it says beside them. */
public final class ReadmeTest extends Checks {
    public static void main(String[] args) {
        ReadmeTest t = new ReadmeTest();
        t.example();
        t.queries();
        t.finish();
    }

    private void example() {
        begin("README: the example");
        due("addRow", x.addRow(0, 12), 0);
        due("addRow", x.addRow(0, 13), 1);
        type("p0(A)");
        due("fault", x.fault(), NONE);
        due("setQuery", x.setQuery(), 1);
        due("answerValue", x.answerValue(0, 0), 1);
        prints(0, 0, "a+b");
        due("setCost", x.setCost(0, 7), 1);
        due("leastCost", x.leastCost(0), 1);
        due("smallestCut", x.smallestCut(0), 3);
        due("setWithdrawn", x.setWithdrawn(0, true), 1);
        due("needed", x.needed(0), 2);
        due("undo", x.undo(), 3);
        due("withdrawn", x.withdrawn(), 0);
    }

    private void queries() {
        begin("README: how queries are written");
        x.setColumns(0, 3);
        x.setColumns(1, 1);
        rows(0, 715, 771, 123);
        rows(1, 7);
        due("select", query("s0=7(A)"), 2);
        due("select", query("s0~1(A)"), 1);
        due("its value", x.answerValue(0, 2), 1);
        due("project", query("p20(A)"), 3);
        due("its column 0", x.answerValue(2, 0), 5);
        due("its column 1", x.answerValue(2, 1), 7);
        due("join", query("j01(B,p20(A))"), 2);
        due("union", query("u(p2(A),B)"), 4);
    }
}
