/** What the tests share: the object under test, ways to fill it, and the answers that are due. */
abstract class Checks {
    static final int NO_SUCH = -1;
    static final int BAD_VALUE = -2;
    static final int BAD_TEXT = -3;
    static final int TOO_MANY = -4;
    static final int NOT_POSSIBLE = -5;
    static final int NONE = -6;
    static final int LOWEST = Integer.MIN_VALUE;
    static final int HIGHEST = Integer.MAX_VALUE;

    /** A new one for each sentence: after its 512th call nothing is promised. */
    ProvenanceTables x = new ProvenanceTables();

    private int wrong = 0;
    private int asked = 0;
    private String sentence = "";

    /** Begins the test of a sentence, or of a part of it, on a new object. */
    final void begin(String words) {
        sentence = words;
        x = new ProvenanceTables();
    }

    /** To be called last. */
    final void finish() {
        System.out.println(wrong == 0 ? asked + " answers are as due" : wrong + " answers are not as due");
        if (wrong != 0) {
            System.exit(1);
        }
    }

    final void due(String call, double got, double want) {
        tell(got == want, call, String.valueOf(got), String.valueOf(want));
    }

    final void due(String call, String got, String want) {
        tell(got.equals(want), call, got, want);
    }

    private void tell(boolean isRight, String call, String got, String want) {
        asked++;
        if (!isRight) {
            wrong++;
            System.out.println(sentence + ": " + call + " answered " + got + ", due is " + want);
        }
    }

    // ---- filling the object

    final void type(String line) {
        x.clearText();
        for (char c : line.toCharArray()) {
            x.append(c);
        }
    }

    final int query(String line) {
        type(line);
        return x.setQuery();
    }

    final void widths(int... columns) {
        for (int table = 0; table < columns.length; table++) {
            x.setColumns(table, columns[table]);
        }
    }

    final void rows(int table, int... values) {
        for (int value : values) {
            due("addRow(" + table + ", " + value + ") >= 0", x.addRow(table, value) >= 0 ? 1 : 0, 1);
        }
    }

    /** As many rows of the same values. */
    final void sameRows(int table, int values, int count) {
        for (int i = 0; i < count; i++) {
            rows(table, values);
        }
    }

    // ---- reading it

    final String paper() {
        StringBuilder paper = new StringBuilder();
        for (int i = 0; x.printed(i) >= 0; i++) {
            paper.append((char) x.printed(i));
        }
        return paper.toString();
    }

    final void prints(int row, int form, String want) {
        String call = "print(" + row + ", " + form + ")";
        due(call, x.print(row, form), want.length());
        due(call + " and printed", paper(), want);
    }

    /** The rows of the answer as "12:a+b 13:c". */
    final void shows(String want) {
        StringBuilder answer = new StringBuilder();
        for (int row = 0; row < x.answerRows(); row++) {
            answer.append(row > 0 ? " " : "");
            for (int column = 0; column < x.answerColumns(); column++) {
                answer.append(x.answerValue(row, column));
            }
            x.print(row, 0);
            answer.append(':').append(paper());
        }
        due("the answer", answer.toString(), want);
    }

    /** Empties the history. */
    final int historySize() {
        int size = 0;
        while (size < 9 && x.undo() != NONE) {
            size++;
        }
        return size;
    }
}
