/** Promise 9: feed appends the low eight bits to BLOCK until it is full. */
public final class Promise09FeedTest {
    public static void main(String[] args) {
        Check.sentence("If BLOCK has `BLOCK_CAPACITY` cells: answers `FULL`, nothing changes.", Promise09FeedTest::full);
        Check.sentence("Otherwise the cell `v & 255` is appended to BLOCK;", Promise09FeedTest::appends);
        Check.sentence("answers the new length of BLOCK (1..64).", Promise09FeedTest::newLength);
        Check.sentence("It makes no difference whether the cells already in BLOCK came from `encode` or from `feed`,",
                Promise09FeedTest::behindEncode);
        Check.sentence("nor whether BLOCK is legal.", Promise09FeedTest::behindAnyBlock);
        Check.sentence("SOURCE and OUTPUT do not change.", Promise09FeedTest::othersStay);
        Check.end("Promise09FeedTest");
    }

    private static void full() {
        OptimalParser x = Check.full();
        for (int v : Check.cells(0, 1, 200, 255, 256, -1, Check.LOW, Check.HIGH)) {
            Check.stays("feed(" + v + ") on a full BLOCK", x, OptimalParser.FULL, () -> x.feed(v));
        }
        x.cut(OptimalParser.BLOCK, 63);
        Check.due("feed(7) with one place", x.feed(7), 64);
        Check.lists("after it", x, Check.FULL_SOURCE, Check.join(Check.counting(10, 63), Check.cells(7)), Check.FULL_OUTPUT);
        Check.stays("feed(8) behind it", x, OptimalParser.FULL, () -> x.feed(8));
    }

    private static void appends() {
        int[][] given = {{0, 0}, {97, 97}, {127, 127}, {128, 128}, {255, 255}, {256, 0}, {257, 1}, {-1, 255}, {-128, 128},
            {-256, 0}, {-257, 255}, {Check.LOW, 0}, {Check.HIGH, 255}, {0x12345678, 0x78}};
        OptimalParser x = Check.usual();
        int[] sofar = Check.NONE;
        for (int[] g : given) {
            x.feed(g[0]);
            sofar = Check.join(sofar, Check.cells(g[1]));
            Check.due("BLOCK after feed(" + g[0] + ")", Check.list(x, OptimalParser.BLOCK), sofar);
        }
    }

    private static void newLength() {
        OptimalParser x = new OptimalParser(2, 2, 3, 0);
        for (int round = 0; round < 2; round++) {
            for (int i = 1; i <= 64; i++) {
                Check.due("feed number " + i, x.feed(i), i);
                Check.due("length after feed number " + i, x.length(OptimalParser.BLOCK), i);
            }
            x.cut(OptimalParser.BLOCK, 0);
        }
    }

    private static void behindEncode() {
        OptimalParser encoded = Check.usual();
        encoded.repeat(97, 10);
        encoded.encode();
        OptimalParser fed = Check.usual();
        fed.repeat(97, 10);
        Check.setBlock(fed, 21, 97, 1, 0, 0);
        for (int i = 6; i <= 64; i++) {
            Check.due("feed behind encode()", encoded.feed(i), i);
            Check.due("feed behind feed", fed.feed(i), i);
            Check.due("the BLOCK of both", Check.list(encoded, OptimalParser.BLOCK), Check.list(fed, OptimalParser.BLOCK));
            Check.due("decode() of both", encoded.decode(), fed.decode());
        }
        Check.due("feed on a BLOCK filled behind encode()", encoded.feed(1), OptimalParser.FULL);
        // The longest block that encode makes leaves room for 15 cells.
        OptimalParser most = new OptimalParser(2, 2, 3, 0);
        Check.setSource(most, Check.counting(1, 32));
        most.encode();
        for (int i = 50; i <= 64; i++) {
            Check.due("feed behind 49 cells", most.feed(i), i);
        }
        Check.due("feed number 65", most.feed(65), OptimalParser.FULL);
    }

    private static void behindAnyBlock() {
        int[][] blocks = {{}, {0}, {1}, {0, 0}, {16}, {240}, {255, 255}, {16, 1, 9, 0}, {48, 1, 2, 3}};
        for (int[] block : blocks) {
            OptimalParser x = Check.busy();
            Check.setBlock(x, block);
            Check.due("feed(-2)", x.feed(-2), block.length + 1);
            Check.lists("after feed(-2)", x, Check.BUSY_SOURCE, Check.join(block, Check.cells(254)), Check.BUSY_OUTPUT);
            x.cut(OptimalParser.BLOCK, block.length);
            x.decode();
            Check.due("feed(3) behind decode()", x.feed(3), block.length + 1);
        }
        // A block that was refused for being short can be fed to its end.
        OptimalParser x = Check.usual();
        Check.setBlock(x, 32, 1);
        x.decode();
        x.feed(2);
        Check.due("decode() of a block fed on", x.decode(), 2);
    }

    private static void othersStay() {
        OptimalParser x = Check.busy();
        for (int n = 4; n <= 64; n++) {
            x.feed(40 + n);
            Check.lists("after feed", x, Check.BUSY_SOURCE, Check.join(Check.BUSY_BLOCK, Check.counting(44, n - 3)), Check.BUSY_OUTPUT);
        }
    }
}
