/** Promise 5: cut shortens SOURCE or BLOCK, never OUTPUT. */
public final class Promise05CutTest {
    private static final int[] ODD = {Check.LOW, Check.LOW + 1, -65, -64, -2, -1, 65, 66, 256, Check.HIGH - 1, Check.HIGH};

    public static void main(String[] args) {
        Check.sentence("If `which` is neither `SOURCE` nor `BLOCK`: answers `BAD_ARGUMENT`.", Promise05CutTest::otherList);
        Check.sentence("OUTPUT can't be cut.", Promise05CutTest::output);
        Check.sentence("If n < 0 or n > length of that list: answers `BAD_ARGUMENT`.", Promise05CutTest::badLength);
        Check.sentence("Otherwise only the first n cells of that list are kept; answers n.", Promise05CutTest::keeps);
        Check.sentence("With n = 0 the list becomes empty;", Promise05CutTest::toNothing);
        Check.sentence("with n equal to its length the list stays as it is.", Promise05CutTest::toItsLength);
        Check.sentence("The two other lists do not change.", Promise05CutTest::othersStay);
        Check.end("Promise05CutTest");
    }

    private static void otherList() {
        for (OptimalParser x : new OptimalParser[] {Check.usual(), Check.busy(), Check.full()}) {
            for (int which : Check.cells(-1, -2, 3, 4, 256, 257, Check.LOW, Check.LOW + 1, Check.HIGH, Check.HIGH - 1)) {
                for (int n : Check.join(Check.cells(0, 1, 3, 4), ODD)) {
                    Check.stays("cut(" + which + ", " + n + ")", x, OptimalParser.BAD_ARGUMENT, () -> x.cut(which, n));
                }
            }
        }
    }

    private static void output() {
        for (OptimalParser x : new OptimalParser[] {Check.usual(), Check.busy(), Check.full()}) {
            for (int n : Check.join(Check.counting(0, 34), ODD)) {
                Check.stays("cut(OUTPUT, " + n + ")", x, OptimalParser.BAD_ARGUMENT, () -> x.cut(OptimalParser.OUTPUT, n));
            }
        }
    }

    private static void badLength() {
        for (int length = 0; length <= 64; length++) {
            OptimalParser x = Check.full();
            x.cut(OptimalParser.BLOCK, length);
            x.cut(OptimalParser.SOURCE, length / 2);
            for (int n : Check.join(Check.cells(length + 1, length + 2), ODD)) {
                Check.stays("cut(BLOCK, " + n + ") of " + length, x, OptimalParser.BAD_ARGUMENT, () -> x.cut(OptimalParser.BLOCK, n));
            }
            for (int n : Check.join(Check.cells(length / 2 + 1, length / 2 + 2), ODD)) {
                Check.stays("cut(SOURCE, " + n + ") of " + length / 2, x, OptimalParser.BAD_ARGUMENT,
                        () -> x.cut(OptimalParser.SOURCE, n));
            }
        }
    }

    private static void keeps() {
        for (int n = 0; n <= 32; n++) {
            OptimalParser x = Check.full();
            Check.due("cut(SOURCE, " + n + ")", x.cut(OptimalParser.SOURCE, n), n);
            Check.due("SOURCE after it", Check.list(x, OptimalParser.SOURCE), Check.first(n, Check.FULL_SOURCE));
        }
        for (int n = 0; n <= 64; n++) {
            OptimalParser x = Check.full();
            Check.due("cut(BLOCK, " + n + ")", x.cut(OptimalParser.BLOCK, n), n);
            Check.due("BLOCK after it", Check.list(x, OptimalParser.BLOCK), Check.first(n, Check.FULL_BLOCK));
        }
        // What was cut off has no influence on what follows.
        OptimalParser x = Check.usual();
        x.repeat(1, 8);
        x.cut(OptimalParser.SOURCE, 2);
        Check.due("encode() after cut", x.encode(), 3);
        Check.setBlock(x, 48, 1, 2, 3);
        x.cut(OptimalParser.BLOCK, 3);
        Check.due("decode() after cut", x.decode(), OptimalParser.SHORT);
    }

    private static void toNothing() {
        for (OptimalParser x : new OptimalParser[] {Check.usual(), Check.busy(), Check.full()}) {
            for (int which : Check.cells(OptimalParser.SOURCE, OptimalParser.BLOCK)) {
                Check.due("cut(" + which + ", 0)", x.cut(which, 0), 0);
                Check.due("the list after it", Check.list(x, which), Check.NONE);
                Check.stays("cut(" + which + ", 0) again", x, 0, () -> x.cut(which, 0));
                Check.stays("cut(" + which + ", 1) of nothing", x, OptimalParser.BAD_ARGUMENT, () -> x.cut(which, 1));
            }
        }
    }

    private static void toItsLength() {
        for (int length = 0; length <= 32; length++) {
            OptimalParser x = Check.full();
            int n = length;
            x.cut(OptimalParser.SOURCE, n);
            Check.stays("cut(SOURCE, " + n + ") of " + n, x, n, () -> x.cut(OptimalParser.SOURCE, n));
        }
        for (int length = 0; length <= 64; length++) {
            OptimalParser x = Check.full();
            int n = length;
            x.cut(OptimalParser.BLOCK, n);
            Check.stays("cut(BLOCK, " + n + ") of " + n, x, n, () -> x.cut(OptimalParser.BLOCK, n));
        }
    }

    private static void othersStay() {
        for (int n = 31; n >= 0; n--) {
            OptimalParser x = Check.full();
            x.cut(OptimalParser.SOURCE, n);
            Check.lists("after cut(SOURCE, " + n + ")", x, Check.first(n, Check.FULL_SOURCE), Check.FULL_BLOCK, Check.FULL_OUTPUT);
            OptimalParser y = Check.full();
            y.cut(OptimalParser.BLOCK, n);
            Check.lists("after cut(BLOCK, " + n + ")", y, Check.FULL_SOURCE, Check.first(n, Check.FULL_BLOCK), Check.FULL_OUTPUT);
        }
    }
}
