/** Promise 4: echo copies from the end of SOURCE, also the cells it appends itself. */
public final class Promise04EchoTest {
    private static final int[] ODD = {Check.LOW, Check.LOW + 1, -33, -32, -2, -1, 0, 33, 34, 64, 256, Check.HIGH - 1, Check.HIGH};

    public static void main(String[] args) {
        Check.sentence("If distance < 1 or distance > length of SOURCE: answers `BAD_ARGUMENT`.", Promise04EchoTest::badDistance);
        Check.sentence("With an empty SOURCE this holds for every distance.", Promise04EchoTest::empty);
        Check.sentence("If n < 1: answers `BAD_ARGUMENT`.", Promise04EchoTest::tooFew);
        Check.sentence("If n > `CAPACITY` - length of SOURCE: answers `FULL`; nothing is appended.", Promise04EchoTest::tooMany);
        Check.sentence("Otherwise n times, one after the other, a cell equal to the one `distance` places before the then "
                + "current end of SOURCE (1: the last) is appended to SOURCE; answers the new length of SOURCE.",
                Promise04EchoTest::appends);
        Check.sentence("Where n is greater than distance, cells appended by this call are copied again.",
                Promise04EchoTest::copiedAgain);
        Check.sentence("BLOCK and OUTPUT do not change.", Promise04EchoTest::othersStay);
        Check.end("Promise04EchoTest");
    }

    private static OptimalParser holding(int length) {
        OptimalParser x = Check.full();
        x.cut(OptimalParser.SOURCE, length);
        return x;
    }

    private static void badDistance() {
        for (int length = 0; length <= 32; length++) {
            OptimalParser x = holding(length);
            for (int distance : Check.join(Check.cells(length + 1, length + 2), ODD)) {
                for (int n : Check.cells(1, 32 - length, 33 - length, 33, Check.HIGH)) {
                    Check.stays("echo(" + distance + ", " + n + ") on " + length, x, OptimalParser.BAD_ARGUMENT,
                            () -> x.echo(distance, n));
                }
            }
        }
        // What was cut off is no longer there to be copied.
        OptimalParser x = Check.busy();
        x.cut(OptimalParser.SOURCE, 2);
        Check.stays("echo(3, 1) behind a cut", x, OptimalParser.BAD_ARGUMENT, () -> x.echo(3, 1));
    }

    private static void empty() {
        OptimalParser x = holding(0);
        for (int distance : Check.join(Check.counting(-40, 81), ODD)) {
            for (int n : Check.cells(1, 32, 33, 0, -1, Check.HIGH, Check.LOW)) {
                Check.stays("echo(" + distance + ", " + n + ") on an empty SOURCE", x, OptimalParser.BAD_ARGUMENT,
                        () -> x.echo(distance, n));
            }
        }
    }

    private static void tooFew() {
        for (int length = 1; length <= 32; length++) {
            OptimalParser x = holding(length);
            int most = length;
            for (int n : Check.cells(0, -1, -2, -32, -33, Check.LOW, Check.LOW + 1, Check.LOW + 32)) {
                Check.stays("echo(1, " + n + ") on " + length, x, OptimalParser.BAD_ARGUMENT, () -> x.echo(1, n));
                Check.stays("echo(" + most + ", " + n + ") on " + length, x, OptimalParser.BAD_ARGUMENT, () -> x.echo(most, n));
            }
        }
    }

    private static void tooMany() {
        for (int length = 1; length <= 32; length++) {
            OptimalParser x = holding(length);
            int most = length;
            int room = 32 - length;
            for (int n : Check.cells(room + 1, room + 2, 33, 64, 256, Check.HIGH - 1, Check.HIGH)) {
                Check.stays("echo(1, " + n + ") on " + length, x, OptimalParser.FULL, () -> x.echo(1, n));
                Check.stays("echo(" + most + ", " + n + ") on " + length, x, OptimalParser.FULL, () -> x.echo(most, n));
            }
        }
    }

    /** At most as many cells as the distance, so that none is copied twice. */
    private static void appends() {
        for (int length = 1; length < 32; length++) {
            for (int distance = 1; distance <= length; distance++) {
                for (int n = 1; n <= Math.min(distance, 32 - length); n++) {
                    OptimalParser x = holding(length);
                    String call = "echo(" + distance + ", " + n + ") on " + length;
                    Check.due(call, x.echo(distance, n), length + n);
                    Check.due("SOURCE after " + call, Check.list(x, OptimalParser.SOURCE),
                            Check.join(Check.counting(100, length), Check.counting(100 + length - distance, n)));
                }
            }
        }
    }

    private static void copiedAgain() {
        OptimalParser x = Check.busy();
        Check.due("echo(3, 7)", x.echo(3, 7), 11);
        Check.due("SOURCE after echo(3, 7)", Check.list(x, OptimalParser.SOURCE), Check.cells(5, 6, 7, 8, 6, 7, 8, 6, 7, 8, 6));
        OptimalParser y = Check.usual();
        y.put(200);
        Check.due("echo(1, 31)", y.echo(1, 31), 32);
        Check.due("SOURCE after echo(1, 31)", Check.list(y, OptimalParser.SOURCE), Check.same(200, 32));
        for (int distance = 1; distance < 16; distance++) {
            for (int n = distance + 1; n <= 32 - distance; n++) {
                OptimalParser z = holding(distance);
                int[] want = new int[distance + n];
                for (int i = 0; i < want.length; i++) {
                    want[i] = 100 + i % distance;
                }
                Check.due("echo(" + distance + ", " + n + ")", z.echo(distance, n), distance + n);
                Check.due("SOURCE after it", Check.list(z, OptimalParser.SOURCE), want);
            }
        }
    }

    private static void othersStay() {
        OptimalParser x = Check.busy();
        x.echo(4, 3);
        Check.lists("after echo(4, 3)", x, Check.cells(5, 6, 7, 8, 5, 6, 7), Check.BUSY_BLOCK, Check.BUSY_OUTPUT);
        x.echo(1, 25);
        Check.lists("after echo(1, 25)", x, Check.join(Check.cells(5, 6, 7, 8, 5, 6), Check.same(7, 26)),
                Check.BUSY_BLOCK, Check.BUSY_OUTPUT);
    }
}
