/** Promise 8: surplus compares BLOCK with the shortest block, and changes nothing. */
public final class Promise08SurplusTest {
    public static void main(String[] args) {
        ordinary();
        different();
        nothingChanges();
        Check.end("Promise08SurplusTest");
    }

    private static void ordinary() {
        OptimalParser x = new OptimalParser(15, 255, 4, 0);
        Check.due("surplus() at the start", x.surplus(), OptimalParser.DIFFERENT);
        Check.setBlock(x, 0);
        Check.due("surplus() of nothing", x.surplus(), 0);
        Check.setSource(x, Check.same(97, 10));
        Check.due("surplus() before encode()", x.surplus(), OptimalParser.DIFFERENT);
        x.encode();
        Check.due("surplus() after encode()", x.surplus(), 0);
        Check.setBlock(x, Check.join(Check.cells(160), Check.same(97, 10)));
        Check.due("surplus() of literals alone", x.surplus(), 6);
        Check.setBlock(x, 16, 97, 1, 0, 1, 1, 0, 0);
        Check.due("surplus() of two matches", x.surplus(), 3);
        Check.setBlock(x, 37, 97, 97, 2, 0, 0);
        Check.due("surplus() of a result too long", x.surplus(), OptimalParser.DIFFERENT);
        Check.setBlock(x, 36, 97, 97, 2, 0, 0);
        Check.due("surplus() of one literal more", x.surplus(), 1);
        Check.setBlock(x, 20, 97, 1, 0, 16, 97);
        Check.due("surplus() of another tie", x.surplus(), 1);
        OptimalParser most = new OptimalParser(2, 2, 3, 0);
        most.repeat(9, 32);
        Check.setBlock(most, Check.join(Check.cells(32), Check.same(2, 15), Check.cells(0), Check.same(9, 32)));
        Check.due("surplus() of 32 literals", most.surplus(), 30);
    }

    private static void different() {
        OptimalParser x = new OptimalParser(15, 255, 4, 0);
        Check.setSource(x, 1, 2, 3);
        int[][] blocks = {{}, {48, 1, 2}, {48, 1, 2, 4}, {48, 9, 2, 3}, {48, 1, 9, 3}, {32, 1, 2}, {64, 1, 2, 3, 4}, {0},
            {49, 1, 2, 3}, {48, 1, 2, 3, 0}, {48, 1, 2, 3, 1, 0}};
        for (int[] block : blocks) {
            Check.setBlock(x, block);
            Check.due("surplus() of " + java.util.Arrays.toString(block), x.surplus(), OptimalParser.DIFFERENT);
        }
        Check.setBlock(x, 48, 1, 2, 3);
        Check.due("surplus() of the right cells", x.surplus(), 0);
        x.cut(OptimalParser.SOURCE, 2);
        Check.due("surplus() of a SOURCE cut", x.surplus(), OptimalParser.DIFFERENT);
        x.put(4);
        Check.due("surplus() of another SOURCE", x.surplus(), OptimalParser.DIFFERENT);
        x.cut(OptimalParser.SOURCE, 2);
        x.put(3);
        Check.due("surplus() of the SOURCE again", x.surplus(), 0);
        x.put(3);
        Check.due("surplus() of a SOURCE longer by one", x.surplus(), OptimalParser.DIFFERENT);
        OptimalParser tail = new OptimalParser(15, 255, 4, 2);
        tail.repeat(9, 6);
        Check.setBlock(tail, 16, 9, 1, 0, 16, 9);
        Check.due("surplus() of an end shorter than T", tail.surplus(), OptimalParser.DIFFERENT);
    }

    private static void nothingChanges() {
        OptimalParser x = Check.busy();
        Check.due("surplus()", x.surplus(), OptimalParser.DIFFERENT);
        Check.lists("after surplus()", x, Check.BUSY_SOURCE, Check.BUSY_BLOCK, Check.BUSY_OUTPUT);
        Check.setSource(x, 8, 9);
        Check.due("surplus() with another OUTPUT", x.surplus(), 0);
        Check.lists("after it", x, Check.cells(8, 9), Check.BUSY_BLOCK, Check.BUSY_OUTPUT);
        Check.setSource(x, Check.BUSY_OUTPUT);
        Check.due("surplus() with OUTPUT equal to SOURCE", x.surplus(), OptimalParser.DIFFERENT);
        Check.setBlock(x, 48, 1, 2);
        Check.due("surplus() of a BLOCK refused", x.surplus(), OptimalParser.DIFFERENT);
        Check.lists("after that", x, Check.BUSY_OUTPUT, Check.cells(48, 1, 2), Check.BUSY_OUTPUT);
        Check.setSource(x, Check.same(4, 9));
        Check.setBlock(x, Check.join(Check.cells(144), Check.same(4, 9)));
        Check.due("surplus() of a BLOCK too long", x.surplus(), 5);
        Check.lists("after all", x, Check.same(4, 9), Check.join(Check.cells(144), Check.same(4, 9)), Check.BUSY_OUTPUT);
    }
}
