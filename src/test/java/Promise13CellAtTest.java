/** Promise 13: cellAt answers one cell of a list. */
public final class Promise13CellAtTest {
    public static void main(String[] args) {
        OptimalParser empty = new OptimalParser(15, 255, 4, 0);
        for (int which = -2; which <= 4; which++) {
            for (int index : Check.cells(Integer.MIN_VALUE, -3, -2, -1, 0, 1, 31, 32, 63, 64, Integer.MAX_VALUE)) {
                Check.due("empty: cellAt(" + which + ", " + index + ")", empty.cellAt(which, index), OptimalParser.BAD_ARGUMENT);
            }
        }
        OptimalParser x = Check.busy();
        cells(x, OptimalParser.SOURCE, Check.BUSY_SOURCE);
        cells(x, OptimalParser.BLOCK, Check.BUSY_BLOCK);
        cells(x, OptimalParser.OUTPUT, Check.BUSY_OUTPUT);
        for (int which : Check.cells(-1, 3, 256, Integer.MIN_VALUE, Integer.MAX_VALUE)) {
            for (int index : Check.cells(-3, -2, -1, 0, 1, 2)) {
                Check.due("cellAt(" + which + ", " + index + ")", x.cellAt(which, index), OptimalParser.BAD_ARGUMENT);
            }
        }
        Check.lists("after cellAt", x, Check.BUSY_SOURCE, Check.BUSY_BLOCK, Check.BUSY_OUTPUT);
        x.cut(OptimalParser.SOURCE, 1);
        x.cut(OptimalParser.BLOCK, 1);
        cells(x, OptimalParser.SOURCE, Check.cells(5));
        cells(x, OptimalParser.BLOCK, Check.cells(32));
        Check.setBlock(x, 16, 255);
        x.decode();
        cells(x, OptimalParser.OUTPUT, Check.cells(255));

        OptimalParser full = new OptimalParser(15, 255, 4, 0);
        Check.setBlock(full, Check.join(Check.cells(240, 17), Check.counting(224, 32)));
        full.decode();
        full.adopt();
        Check.setBlock(full, Check.counting(192, 64));
        cells(full, OptimalParser.SOURCE, Check.counting(224, 32));
        cells(full, OptimalParser.BLOCK, Check.counting(192, 64));
        cells(full, OptimalParser.OUTPUT, Check.counting(224, 32));
        Check.end("Promise13CellAtTest");
    }

    private static void cells(OptimalParser x, int which, int[] want) {
        for (int i = 0; i < want.length; i++) {
            Check.due("cellAt(" + which + ", " + i + ")", x.cellAt(which, i), want[i]);
        }
        for (int index : Check.cells(Integer.MIN_VALUE, -1, want.length, want.length + 1, 64, Integer.MAX_VALUE)) {
            Check.due("cellAt(" + which + ", " + index + ")", x.cellAt(which, index), OptimalParser.BAD_ARGUMENT);
        }
    }
}
