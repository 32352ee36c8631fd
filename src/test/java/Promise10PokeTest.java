/** Promise 10: poke changes one cell of BLOCK and answers what was there. */
public final class Promise10PokeTest {
    public static void main(String[] args) {
        OptimalParser empty = new OptimalParser(15, 255, 4, 0);
        for (int index : Check.cells(Integer.MIN_VALUE, -1, 0, 1, 63, 64, Integer.MAX_VALUE)) {
            Check.due("poke(" + index + ", 1) on an empty BLOCK", empty.poke(index, 1), OptimalParser.BAD_ARGUMENT);
        }
        Check.lists("after it", empty, new int[0], new int[0], new int[0]);

        OptimalParser x = Check.busy();
        for (int index : Check.cells(Integer.MIN_VALUE, -1, 3, 4, 63, 64, Integer.MAX_VALUE)) {
            Check.due("poke(" + index + ", 1)", x.poke(index, 1), OptimalParser.BAD_ARGUMENT);
        }
        Check.lists("after refused poke", x, Check.BUSY_SOURCE, Check.BUSY_BLOCK, Check.BUSY_OUTPUT);
        Check.due("poke(0, -1)", x.poke(0, -1), 32);
        Check.due("poke(0, 256)", x.poke(0, 256), 255);
        Check.due("poke(2, MIN_VALUE)", x.poke(2, Integer.MIN_VALUE), 9);
        Check.due("poke(2, 300)", x.poke(2, 300), 0);
        Check.due("poke(1, 8) of the same", x.poke(1, 8), 8);
        Check.lists("after poke", x, Check.BUSY_SOURCE, Check.cells(0, 8, 44), Check.BUSY_OUTPUT);
        x.cut(OptimalParser.BLOCK, 2);
        Check.due("poke behind a cut", x.poke(2, 1), OptimalParser.BAD_ARGUMENT);

        OptimalParser full = new OptimalParser(15, 255, 4, 0);
        Check.setBlock(full, Check.counting(0, 64));
        Check.due("poke(63, 200) on a full BLOCK", full.poke(63, 200), 63);
        Check.due("poke(64, 200) on a full BLOCK", full.poke(64, 200), OptimalParser.BAD_ARGUMENT);
        Check.lists("after it", full, new int[0], Check.join(Check.counting(0, 63), Check.cells(200)), new int[0]);
        Check.end("Promise10PokeTest");
    }
}
