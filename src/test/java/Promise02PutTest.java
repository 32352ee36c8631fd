/** Promise 2: put appends the low eight bits to SOURCE until it is full. */
public final class Promise02PutTest {
    public static void main(String[] args) {
        lowBits();
        full();
        othersStay();
        Check.end("Promise02PutTest");
    }

    private static void lowBits() {
        int[][] given = {{0, 0}, {97, 97}, {127, 127}, {128, 128}, {255, 255}, {256, 0}, {257, 1}, {-1, 255}, {-128, 128},
            {-256, 0}, {-257, 255}, {Integer.MIN_VALUE, 0}, {Integer.MAX_VALUE, 255}, {0x12345678, 0x78}};
        OptimalParser x = new OptimalParser(15, 255, 4, 0);
        for (int i = 0; i < given.length; i++) {
            Check.due("put(" + given[i][0] + ")", x.put(given[i][0]), i + 1);
            Check.due("the cell of put(" + given[i][0] + ")", x.cellAt(OptimalParser.SOURCE, i), given[i][1]);
        }
    }

    private static void full() {
        OptimalParser x = new OptimalParser(15, 255, 4, 0);
        for (int i = 1; i <= 32; i++) {
            Check.due("put number " + i, x.put(i), i);
        }
        for (int i = 0; i < 3; i++) {
            Check.due("put on a full SOURCE", x.put(200), OptimalParser.FULL);
            Check.lists("after put on a full SOURCE", x, Check.counting(1, 32), new int[0], new int[0]);
        }
        x.cut(OptimalParser.SOURCE, 31);
        Check.due("put after cut", x.put(77), 32);
        Check.lists("after put after cut", x, Check.join(Check.counting(1, 31), Check.cells(77)), new int[0], new int[0]);
    }

    private static void othersStay() {
        OptimalParser x = Check.busy();
        Check.due("put(300)", x.put(300), 5);
        Check.lists("after put", x, Check.cells(5, 6, 7, 8, 44), Check.BUSY_BLOCK, Check.BUSY_OUTPUT);
    }
}
