/** Promise 2: put appends the low eight bits to SOURCE until it is full. */
public final class Promise02PutTest {
    public static void main(String[] args) {
        Check.sentence("If SOURCE has `CAPACITY` cells: answers `FULL`, nothing changes.", Promise02PutTest::full);
        Check.sentence("Otherwise the cell `v & 255` is appended to SOURCE;", Promise02PutTest::appends);
        Check.sentence("answers the new length of SOURCE (1..32).", Promise02PutTest::newLength);
        Check.sentence("BLOCK and OUTPUT do not change.", Promise02PutTest::othersStay);
        Check.end("Promise02PutTest");
    }

    private static void full() {
        OptimalParser x = Check.full();
        for (int v : Check.cells(0, 1, 200, 255, 256, -1, Check.LOW, Check.HIGH)) {
            Check.stays("put(" + v + ") on a full SOURCE", x, OptimalParser.FULL, () -> x.put(v));
        }
        x.cut(OptimalParser.SOURCE, 31);
        Check.due("put(77) with one place", x.put(77), 32);
        Check.lists("after it", x, Check.join(Check.counting(100, 31), Check.cells(77)), Check.FULL_BLOCK, Check.FULL_OUTPUT);
        Check.stays("put(78) behind it", x, OptimalParser.FULL, () -> x.put(78));
    }

    private static void appends() {
        int[][] given = {{0, 0}, {97, 97}, {127, 127}, {128, 128}, {255, 255}, {256, 0}, {257, 1}, {-1, 255}, {-128, 128},
            {-256, 0}, {-257, 255}, {Check.LOW, 0}, {Check.HIGH, 255}, {0x12345678, 0x78}};
        OptimalParser x = Check.usual();
        int[] sofar = Check.NONE;
        for (int[] g : given) {
            x.put(g[0]);
            sofar = Check.join(sofar, Check.cells(g[1]));
            Check.due("SOURCE after put(" + g[0] + ")", Check.list(x, OptimalParser.SOURCE), sofar);
        }
    }

    private static void newLength() {
        OptimalParser x = Check.usual();
        for (int round = 0; round < 2; round++) {
            for (int i = 1; i <= 32; i++) {
                Check.due("put number " + i, x.put(i), i);
                Check.due("length after put number " + i, x.length(OptimalParser.SOURCE), i);
            }
            x.cut(OptimalParser.SOURCE, 0);
        }
    }

    private static void othersStay() {
        OptimalParser x = Check.busy();
        for (int n = 5; n <= 32; n++) {
            x.put(40 + n);
            Check.lists("after put", x, Check.join(Check.BUSY_SOURCE, Check.counting(45, n - 4)), Check.BUSY_BLOCK, Check.BUSY_OUTPUT);
        }
    }
}
