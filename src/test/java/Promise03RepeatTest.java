/** Promise 3: repeat appends n equal cells or none. */
public final class Promise03RepeatTest {
    public static void main(String[] args) {
        Check.sentence("If n < 1: answers `BAD_ARGUMENT`.", Promise03RepeatTest::tooFew);
        Check.sentence("If n > `CAPACITY` - length of SOURCE: answers `FULL`.", Promise03RepeatTest::tooMany);
        Check.sentence("Nothing is appended, not even a part of the n cells.", Promise03RepeatTest::noPart);
        Check.sentence("For a full SOURCE every n >= 1 is answered with `FULL`.", Promise03RepeatTest::full);
        Check.sentence("Otherwise n cells `v & 255` are appended to SOURCE; answers the new length of SOURCE.",
                Promise03RepeatTest::appends);
        Check.sentence("An n that exactly fills SOURCE is accepted.", Promise03RepeatTest::fills);
        Check.sentence("BLOCK and OUTPUT do not change.", Promise03RepeatTest::othersStay);
        Check.end("Promise03RepeatTest");
    }

    private static OptimalParser holding(int length) {
        OptimalParser x = Check.full();
        x.cut(OptimalParser.SOURCE, length);
        return x;
    }

    private static void tooFew() {
        for (int length = 0; length <= 32; length++) {
            OptimalParser x = holding(length);
            for (int n : Check.cells(0, -1, -2, -32, -33, Check.LOW, Check.LOW + 1, Check.LOW + 32)) {
                Check.stays("repeat(1, " + n + ") on " + length, x, OptimalParser.BAD_ARGUMENT, () -> x.repeat(1, n));
            }
        }
    }

    private static void tooMany() {
        for (int length = 0; length <= 32; length++) {
            OptimalParser x = holding(length);
            int room = 32 - length;
            // Near the greatest int a sum with the length would wrap around to below 0.
            for (int n : Check.cells(room + 1, room + 2, 33, 64, 256, 65536, Check.HIGH - 1, Check.HIGH)) {
                Check.stays("repeat(1, " + n + ") on " + length, x, OptimalParser.FULL, () -> x.repeat(1, n));
            }
        }
    }

    private static void noPart() {
        OptimalParser x = Check.busy();
        for (int n : Check.cells(29, 30, 32, 33, 1000)) {
            x.repeat(1, n);
            Check.lists("after a repeat too long", x, Check.BUSY_SOURCE, Check.BUSY_BLOCK, Check.BUSY_OUTPUT);
        }
        x.put(9);
        Check.lists("after put behind it", x, Check.cells(5, 6, 7, 8, 9), Check.BUSY_BLOCK, Check.BUSY_OUTPUT);
    }

    private static void full() {
        OptimalParser x = Check.full();
        for (int n = 1; n <= 70; n++) {
            int count = n;
            Check.stays("repeat(1, " + n + ") on a full SOURCE", x, OptimalParser.FULL, () -> x.repeat(1, count));
        }
        for (int bit = 0; bit < 31; bit++) {
            int count = 1 << bit;
            Check.stays("repeat(1, " + count + ") on a full SOURCE", x, OptimalParser.FULL, () -> x.repeat(1, count));
        }
        Check.stays("repeat(1, MAX_VALUE) on a full SOURCE", x, OptimalParser.FULL, () -> x.repeat(1, Check.HIGH));
    }

    private static void appends() {
        OptimalParser x = Check.busy();
        Check.due("repeat(-1, 1)", x.repeat(-1, 1), 5);
        Check.due("repeat(256, 2)", x.repeat(256, 2), 7);
        Check.due("repeat(MIN_VALUE, 1)", x.repeat(Check.LOW, 1), 8);
        Check.due("repeat(353, 3)", x.repeat(353, 3), 11);
        Check.due("repeat(MAX_VALUE, 2)", x.repeat(Check.HIGH, 2), 13);
        Check.due("SOURCE after repeat", Check.list(x, OptimalParser.SOURCE),
                Check.cells(5, 6, 7, 8, 255, 0, 0, 0, 97, 97, 97, 255, 255));
        for (int length = 0; length < 32; length++) {
            for (int n = 1; n <= 32 - length; n++) {
                OptimalParser y = holding(length);
                Check.due("repeat(-2, " + n + ") on " + length, y.repeat(-2, n), length + n);
                Check.due("SOURCE after it", Check.list(y, OptimalParser.SOURCE),
                        Check.join(Check.first(length, Check.FULL_SOURCE), Check.same(254, n)));
            }
        }
    }

    private static void fills() {
        for (int length = 0; length < 32; length++) {
            OptimalParser x = holding(length);
            Check.due("repeat(3, " + (32 - length) + ") on " + length, x.repeat(3, 32 - length), 32);
            Check.due("SOURCE after it", Check.list(x, OptimalParser.SOURCE),
                    Check.join(Check.first(length, Check.FULL_SOURCE), Check.same(3, 32 - length)));
            Check.stays("put(4) behind it", x, OptimalParser.FULL, () -> x.put(4));
        }
    }

    private static void othersStay() {
        OptimalParser x = Check.busy();
        x.repeat(1, 5);
        Check.lists("after repeat(1, 5)", x, Check.join(Check.BUSY_SOURCE, Check.same(1, 5)), Check.BUSY_BLOCK, Check.BUSY_OUTPUT);
        x.repeat(2, 23);
        Check.lists("after repeat(2, 23)", x, Check.join(Check.BUSY_SOURCE, Check.same(1, 5), Check.same(2, 23)),
                Check.BUSY_BLOCK, Check.BUSY_OUTPUT);
    }
}
