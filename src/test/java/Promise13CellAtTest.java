/** Promise 13: cellAt answers one cell of a list. */
public final class Promise13CellAtTest {
    private static final int[] ODD = {Check.LOW, Check.LOW + 1, -65, -3, -2, -1, 64, 65, 256, Check.HIGH - 1, Check.HIGH};

    public static void main(String[] args) {
        Check.sentence("If `which` is not `SOURCE`, `BLOCK` or `OUTPUT`: answers `BAD_ARGUMENT`.", Promise13CellAtTest::otherList);
        Check.sentence("If index < 0 or index >= length of that list: answers `BAD_ARGUMENT`.", Promise13CellAtTest::badIndex);
        Check.sentence("For an empty list this holds for every index.", Promise13CellAtTest::emptyList);
        Check.sentence("Otherwise answers the cell at `index` of that list, 0..255.", Promise13CellAtTest::cells);
        Check.sentence("Nothing changes.", Promise13CellAtTest::nothingChanges);
        Check.end("Promise13CellAtTest");
    }

    private static void refused(OptimalParser x, int which, int index) {
        Check.stays("cellAt(" + which + ", " + index + ")", x, OptimalParser.BAD_ARGUMENT, () -> x.cellAt(which, index));
    }

    private static void otherList() {
        for (OptimalParser x : new OptimalParser[] {Check.usual(), Check.busy(), Check.full()}) {
            for (int which : Check.cells(-1, -2, 3, 4, 256, 257, Check.LOW, Check.LOW + 1, Check.HIGH, Check.HIGH - 1)) {
                for (int index : Check.join(Check.counting(-3, 36), ODD)) {
                    refused(x, which, index);
                }
            }
        }
    }

    private static void badIndex() {
        for (int length = 0; length <= 32; length++) {
            OptimalParser x = Check.usual();
            Check.setBlock(x, Probe.literals(15, 255, length));
            x.decode();
            Check.setSource(x, Check.first(length, Check.FULL_SOURCE));
            Check.setBlock(x, Check.first(2 * length, Check.FULL_BLOCK));
            for (int index : ODD) {
                refused(x, OptimalParser.SOURCE, index);
                refused(x, OptimalParser.BLOCK, index);
                refused(x, OptimalParser.OUTPUT, index);
            }
            for (int index : Check.cells(length, length + 1, 32)) {
                refused(x, OptimalParser.SOURCE, index);
                refused(x, OptimalParser.OUTPUT, index);
            }
            refused(x, OptimalParser.BLOCK, 2 * length);
            refused(x, OptimalParser.BLOCK, 2 * length + 1);
        }
        // Cells that were once there are not answered.
        OptimalParser x = Check.full();
        x.cut(OptimalParser.SOURCE, 1);
        x.cut(OptimalParser.BLOCK, 1);
        refused(x, OptimalParser.SOURCE, 1);
        refused(x, OptimalParser.BLOCK, 1);
        Check.setBlock(x, 16, 255);
        x.decode();
        refused(x, OptimalParser.OUTPUT, 1);
    }

    private static void emptyList() {
        OptimalParser fresh = Check.usual();
        OptimalParser emptied = Check.full();
        Check.setBlock(emptied, 0);
        emptied.decode();
        emptied.cut(OptimalParser.SOURCE, 0);
        emptied.cut(OptimalParser.BLOCK, 0);
        for (OptimalParser x : new OptimalParser[] {fresh, emptied}) {
            for (int which = 0; which <= 2; which++) {
                for (int index : Check.join(Check.counting(-70, 141), ODD)) {
                    refused(x, which, index);
                }
            }
        }
    }

    private static void cells(OptimalParser x, int which, int[] want) {
        for (int i = 0; i < want.length; i++) {
            Check.due("cellAt(" + which + ", " + i + ")", x.cellAt(which, i), want[i]);
        }
    }

    private static void cells() {
        OptimalParser x = Check.busy();
        cells(x, OptimalParser.SOURCE, Check.BUSY_SOURCE);
        cells(x, OptimalParser.BLOCK, Check.BUSY_BLOCK);
        cells(x, OptimalParser.OUTPUT, Check.BUSY_OUTPUT);
        OptimalParser full = Check.full();
        cells(full, OptimalParser.SOURCE, Check.FULL_SOURCE);
        cells(full, OptimalParser.BLOCK, Check.FULL_BLOCK);
        cells(full, OptimalParser.OUTPUT, Check.FULL_OUTPUT);
        // Every value of a cell, in every list.
        for (int v = 0; v <= 255; v++) {
            OptimalParser y = Check.usual();
            y.put(v);
            y.encode();
            y.decode();
            cells(y, OptimalParser.SOURCE, Check.cells(v));
            cells(y, OptimalParser.BLOCK, Check.cells(16, v));
            cells(y, OptimalParser.OUTPUT, Check.cells(v));
        }
    }

    private static void nothingChanges() {
        OptimalParser x = Check.busy();
        for (int which = -1; which <= 3; which++) {
            for (int index : Check.join(Check.counting(-1, 7), ODD)) {
                x.cellAt(which, index);
                Check.lists("after cellAt", x, Check.BUSY_SOURCE, Check.BUSY_BLOCK, Check.BUSY_OUTPUT);
            }
        }
    }
}
