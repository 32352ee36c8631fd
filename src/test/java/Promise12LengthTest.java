/** Promise 12: length answers for the three lists and no other. */
public final class Promise12LengthTest {
    public static void main(String[] args) {
        OptimalParser x = new OptimalParser(15, 255, 4, 0);
        lengths("at the start", x, 0, 0, 0);
        x.put(1);
        lengths("after put", x, 1, 0, 0);
        x.echo(1, 31);
        lengths("with a full SOURCE", x, 32, 0, 0);
        x.encode();
        lengths("after encode", x, 32, 6, 0);
        x.decode();
        lengths("after decode", x, 32, 6, 32);
        x.cut(OptimalParser.SOURCE, 3);
        x.cut(OptimalParser.BLOCK, 2);
        lengths("after cuts", x, 3, 2, 32);
        for (int i = 0; i < 70; i++) {
            x.feed(0);
        }
        lengths("with a full BLOCK", x, 3, 64, 32);
        Check.setBlock(x, 0);
        x.decode();
        lengths("with an OUTPUT made empty", x, 3, 1, 0);
        OptimalParser y = Check.busy();
        lengths("three lists", y, 4, 3, 3);
        Check.lists("after length", y, Check.BUSY_SOURCE, Check.BUSY_BLOCK, Check.BUSY_OUTPUT);
        Check.end("Promise12LengthTest");
    }

    private static void lengths(String when, OptimalParser x, int source, int block, int output) {
        Check.due(when + ": length(SOURCE)", x.length(OptimalParser.SOURCE), source);
        Check.due(when + ": length(BLOCK)", x.length(OptimalParser.BLOCK), block);
        Check.due(when + ": length(OUTPUT)", x.length(OptimalParser.OUTPUT), output);
        for (int which : Check.cells(-1, 3, 4, 256, -2, Integer.MIN_VALUE, Integer.MAX_VALUE)) {
            Check.due(when + ": length(" + which + ")", x.length(which), OptimalParser.BAD_ARGUMENT);
        }
    }
}
