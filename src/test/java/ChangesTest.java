/** Promise 43: CHANGES. */
public final class ChangesTest {
    private static final Due D = new Due();

    public static void main(String[] args) {
        D.about("promise 43");
        BellTongue x = new BellTongue();
        changes(x, 2, 1, 1, 0, 1);
        changes(x, 2, 1, 10, 1, 10);
        changes(x, 2, 10, 1, 1, 1);
        changes(x, 3, 12, 102, 1, 102);
        changes(x, 3, 12, 21, 1, 21);
        // 012 > 102 > 120
        changes(x, 3, 12, 120, 2, 102);
        // 012 > 021 > 201 > 210 or 012 > 102 > 120 > 210
        changes(x, 3, 12, 210, 3, 21);
        changes(x, 3, 210, 12, 3, 120);
        // both twos at once
        changes(x, 4, 123, 1032, 1, 1032);
        // 0123 > 1032 > 1302 > 3120 > 3210, or by 0213
        changes(x, 4, 123, 3210, 4, 213);
        changes(x, 5, 1234, 1234, 0, 1234);
        changes(x, 5, 1234, 10324, 1, 10324);
        changes(x, 5, 1234, 43210, 5, 2143);
        int[][] wrong = {{1, 0, 0}, {6, 12345, 12345}, {0, 0, 0}, {-1, 1, 1}, {3, 11, 12},
            {3, 12, 11}, {3, 13, 12}, {3, 12, 1012}, {3, 1012, 12}, {4, 12, 123}, {2, 12, 1},
            {2, 0, 1}, {3, -12, 12}, {3, 12, -12}, {5, 1234, Integer.MIN_VALUE},
            {5, Integer.MAX_VALUE, 1234}, {Integer.MAX_VALUE, 1, 1}, {2, 110, 1}, {5, 12346, 1234}};
        for (int[] w : wrong) {
            String call = "changes(" + w[0] + ", " + w[1] + ", " + w[2] + ", ..)";
            D.due(call, x.changes(w[0], w[1], w[2], false), -1);
            D.due(call, x.changes(w[0], w[1], w[2], true), -1);
        }
        allRows();
        D.close("ChangesTest");
    }

    private static void changes(BellTongue x, int n, int from, int to, int many, int row) {
        String call = "changes(" + n + ", " + from + ", " + to + ", ";
        D.due(call + "false)", x.changes(n, from, to, false), many);
        D.due(call + "true)", x.changes(n, from, to, true), row);
    }

    /** Every row of five is left and come to by as many changes; none takes more than five. */
    private static void allRows() {
        BellTongue x = new BellTongue();
        int rows = 0;
        for (int row = 1234; row <= 43210; row++) {
            if (row % 100 == 0) {
                // an object is used for 512 calls at most
                x = new BellTongue();
            }
            int many = x.changes(5, row, 1234, false);
            if (many < 0) {
                continue;
            }
            rows++;
            D.due("changes(5, " + row + ") at most", many <= 5, true);
            D.due("changes(5, 1234, " + row + ")", x.changes(5, 1234, row, false), many);
            int next = x.changes(5, row, 1234, true);
            D.due("one less behind " + row, x.changes(5, next, 1234, false), Math.max(0, many - 1));
        }
        D.due("rows", rows, 120);
    }
}
