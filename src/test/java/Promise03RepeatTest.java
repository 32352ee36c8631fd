/** Promise 3: repeat appends n equal cells or none. */
public final class Promise03RepeatTest {
    public static void main(String[] args) {
        ordinary();
        wrongCount();
        full();
        Check.end("Promise03RepeatTest");
    }

    private static void ordinary() {
        OptimalParser x = Check.busy();
        Check.due("repeat(-1, 1)", x.repeat(-1, 1), 5);
        Check.due("repeat(256, 2)", x.repeat(256, 2), 7);
        Check.due("repeat(MIN_VALUE, 1)", x.repeat(Integer.MIN_VALUE, 1), 8);
        Check.due("repeat(353, 3)", x.repeat(353, 3), 11);
        Check.lists("after repeat", x, Check.cells(5, 6, 7, 8, 255, 0, 0, 0, 97, 97, 97), Check.BUSY_BLOCK, Check.BUSY_OUTPUT);
        OptimalParser y = new OptimalParser(2, 2, 3, 0);
        Check.due("repeat(9, 32) on an empty SOURCE", y.repeat(9, 32), 32);
        Check.lists("after repeat(9, 32)", y, Check.same(9, 32), new int[0], new int[0]);
    }

    private static void wrongCount() {
        OptimalParser x = Check.busy();
        for (int n : Check.cells(0, -1, -32, Integer.MIN_VALUE)) {
            Check.due("repeat(1, " + n + ")", x.repeat(1, n), OptimalParser.BAD_ARGUMENT);
        }
        Check.lists("after refused repeat", x, Check.BUSY_SOURCE, Check.BUSY_BLOCK, Check.BUSY_OUTPUT);
    }

    private static void full() {
        OptimalParser x = Check.busy();
        for (int n : Check.cells(29, 30, 32, 33, 1000, Integer.MAX_VALUE)) {
            Check.due("repeat(1, " + n + ") with 28 places", x.repeat(1, n), OptimalParser.FULL);
            Check.lists("after a repeat too long", x, Check.BUSY_SOURCE, Check.BUSY_BLOCK, Check.BUSY_OUTPUT);
        }
        Check.due("repeat(1, 28) with 28 places", x.repeat(1, 28), 32);
        Check.lists("after it", x, Check.join(Check.BUSY_SOURCE, Check.same(1, 28)), Check.BUSY_BLOCK, Check.BUSY_OUTPUT);
        Check.due("repeat(1, 1) on a full SOURCE", x.repeat(1, 1), OptimalParser.FULL);
        Check.due("repeat(1, MAX_VALUE) on a full SOURCE", x.repeat(1, Integer.MAX_VALUE), OptimalParser.FULL);
        Check.due("repeat(1, 0) on a full SOURCE", x.repeat(1, 0), OptimalParser.BAD_ARGUMENT);
        OptimalParser y = new OptimalParser(15, 255, 4, 0);
        Check.due("repeat(1, 33) on an empty SOURCE", y.repeat(1, 33), OptimalParser.FULL);
        Check.due("length after it", y.length(OptimalParser.SOURCE), 0);
    }
}
