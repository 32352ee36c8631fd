/** Promise 5: cut shortens SOURCE or BLOCK, never OUTPUT. */
public final class Promise05CutTest {
    public static void main(String[] args) {
        ordinary();
        wrongArguments();
        grownAgain();
        Check.end("Promise05CutTest");
    }

    private static void ordinary() {
        OptimalParser x = Check.busy();
        Check.due("cut(SOURCE, 4)", x.cut(OptimalParser.SOURCE, 4), 4);
        Check.due("cut(BLOCK, 3)", x.cut(OptimalParser.BLOCK, 3), 3);
        Check.lists("after cuts to the whole length", x, Check.BUSY_SOURCE, Check.BUSY_BLOCK, Check.BUSY_OUTPUT);
        Check.due("cut(SOURCE, 3)", x.cut(OptimalParser.SOURCE, 3), 3);
        Check.lists("after cut(SOURCE, 3)", x, Check.cells(5, 6, 7), Check.BUSY_BLOCK, Check.BUSY_OUTPUT);
        Check.due("cut(BLOCK, 1)", x.cut(OptimalParser.BLOCK, 1), 1);
        Check.lists("after cut(BLOCK, 1)", x, Check.cells(5, 6, 7), Check.cells(32), Check.BUSY_OUTPUT);
        Check.due("cut(SOURCE, 0)", x.cut(OptimalParser.SOURCE, 0), 0);
        Check.lists("after cut(SOURCE, 0)", x, new int[0], Check.cells(32), Check.BUSY_OUTPUT);
        Check.due("cut(BLOCK, 0)", x.cut(OptimalParser.BLOCK, 0), 0);
        Check.lists("after cut(BLOCK, 0)", x, new int[0], new int[0], Check.BUSY_OUTPUT);
        Check.due("cut(SOURCE, 0) again", x.cut(OptimalParser.SOURCE, 0), 0);
        Check.due("cut(BLOCK, 0) again", x.cut(OptimalParser.BLOCK, 0), 0);
        Check.due("cut(SOURCE, 1) of nothing", x.cut(OptimalParser.SOURCE, 1), OptimalParser.BAD_ARGUMENT);
    }

    private static void wrongArguments() {
        OptimalParser x = Check.busy();
        for (int which : Check.cells(OptimalParser.OUTPUT, 3, -1, 256, Integer.MIN_VALUE, Integer.MAX_VALUE)) {
            for (int n : Check.cells(0, 1, 3)) {
                Check.due("cut(" + which + ", " + n + ")", x.cut(which, n), OptimalParser.BAD_ARGUMENT);
            }
        }
        for (int n : Check.cells(-1, -2, 5, 32, Integer.MIN_VALUE, Integer.MAX_VALUE)) {
            Check.due("cut(SOURCE, " + n + ")", x.cut(OptimalParser.SOURCE, n), OptimalParser.BAD_ARGUMENT);
        }
        for (int n : Check.cells(-1, -2, 4, 64, Integer.MIN_VALUE, Integer.MAX_VALUE)) {
            Check.due("cut(BLOCK, " + n + ")", x.cut(OptimalParser.BLOCK, n), OptimalParser.BAD_ARGUMENT);
        }
        Check.lists("after refused cuts", x, Check.BUSY_SOURCE, Check.BUSY_BLOCK, Check.BUSY_OUTPUT);
    }

    /** What was cut off has no influence on what follows. */
    private static void grownAgain() {
        OptimalParser x = new OptimalParser(15, 255, 4, 0);
        Check.setSource(x, 1, 1, 1, 1, 1, 1, 1, 1);
        x.cut(OptimalParser.SOURCE, 2);
        Check.due("encode() after cut", x.encode(), 3);
        Check.lists("after it", x, Check.cells(1, 1), Check.cells(32, 1, 1), new int[0]);
        x.put(9);
        Check.due("put after cut", x.cellAt(OptimalParser.SOURCE, 2), 9);
        Check.setBlock(x, 48, 1, 2, 3);
        x.cut(OptimalParser.BLOCK, 3);
        Check.due("decode() after cut", x.decode(), OptimalParser.SHORT);
    }
}
