/** Promise 10: poke changes one cell of BLOCK and answers what was there. */
public final class Promise10PokeTest {
    private static final int[] ODD = {Check.LOW, Check.LOW + 1, -65, -64, -2, -1, 64, 65, 256, Check.HIGH - 1, Check.HIGH};

    public static void main(String[] args) {
        Check.sentence("If index < 0 or index >= length of BLOCK: answers `BAD_ARGUMENT`.", Promise10PokeTest::badIndex);
        Check.sentence("With an empty BLOCK this holds for every index.", Promise10PokeTest::empty);
        Check.sentence("Otherwise the cell of BLOCK at `index` becomes `v & 255`;", Promise10PokeTest::becomes);
        Check.sentence("answers the cell that was there before, 0..255.", Promise10PokeTest::before);
        Check.sentence("The length of BLOCK, its other cells, SOURCE and OUTPUT do not change.", Promise10PokeTest::othersStay);
        Check.end("Promise10PokeTest");
    }

    private static void badIndex() {
        for (int length = 0; length <= 64; length++) {
            OptimalParser x = Check.full();
            x.cut(OptimalParser.BLOCK, length);
            for (int index : Check.join(Check.cells(length, length + 1), ODD)) {
                Check.stays("poke(" + index + ", 1) on " + length, x, OptimalParser.BAD_ARGUMENT, () -> x.poke(index, 1));
            }
        }
        // A cell cut off isn't changed behind the end either.
        OptimalParser x = Check.busy();
        x.cut(OptimalParser.BLOCK, 2);
        Check.stays("poke(2, 1) behind a cut", x, OptimalParser.BAD_ARGUMENT, () -> x.poke(2, 1));
    }

    private static void empty() {
        OptimalParser fresh = Check.usual();
        OptimalParser cut = Check.full();
        cut.cut(OptimalParser.BLOCK, 0);
        for (OptimalParser x : new OptimalParser[] {fresh, cut}) {
            for (int index : Check.join(Check.counting(-70, 141), ODD)) {
                Check.stays("poke(" + index + ", 1) on an empty BLOCK", x, OptimalParser.BAD_ARGUMENT, () -> x.poke(index, 1));
            }
        }
    }

    private static void becomes() {
        int[][] given = {{0, 0}, {97, 97}, {127, 127}, {128, 128}, {255, 255}, {256, 0}, {257, 1}, {-1, 255}, {-128, 128},
            {-256, 0}, {-257, 255}, {Check.LOW, 0}, {Check.HIGH, 255}, {0x12345678, 0x78}};
        for (int[] g : given) {
            OptimalParser x = Check.busy();
            for (int index = 0; index < 3; index++) {
                x.poke(index, g[0]);
                Check.due("the cell of poke(" + index + ", " + g[0] + ")", x.cellAt(OptimalParser.BLOCK, index), g[1]);
            }
        }
        // What decode reads is the new cell.
        OptimalParser x = Check.busy();
        x.poke(0, 16 + 256);
        x.cut(OptimalParser.BLOCK, 2);
        Check.due("decode() of a poked BLOCK", x.decode(), 1);
    }

    private static void before() {
        OptimalParser x = Check.full();
        for (int index = 0; index < 64; index++) {
            Check.due("poke(" + index + ", -1)", x.poke(index, -1), 10 + index);
            Check.due("poke(" + index + ", 256)", x.poke(index, 256), 255);
            Check.due("poke(" + index + ", MIN_VALUE)", x.poke(index, Check.LOW), 0);
            Check.due("poke(" + index + ", 300)", x.poke(index, 300), 0);
            Check.due("poke(" + index + ", 44) of the same", x.poke(index, 44), 44);
        }
        // Also where encode has put the cell.
        x.encode();
        Check.due("poke(0, 1) behind encode()", x.poke(0, 1), 240);
        Check.due("poke(33, 1) behind encode()", x.poke(33, 1), 131);
    }

    private static void othersStay() {
        for (int index = 0; index < 64; index++) {
            OptimalParser x = Check.full();
            x.poke(index, 200);
            int[] block = Check.counting(10, 64);
            block[index] = 200;
            Check.lists("after poke(" + index + ", 200)", x, Check.FULL_SOURCE, block, Check.FULL_OUTPUT);
        }
        OptimalParser y = Check.busy();
        y.poke(1, 7);
        Check.lists("after poke(1, 7)", y, Check.BUSY_SOURCE, Check.cells(32, 7, 9), Check.BUSY_OUTPUT);
    }
}
