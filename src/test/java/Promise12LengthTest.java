/** Promise 12: length answers for the three lists and no other. */
public final class Promise12LengthTest {
    public static void main(String[] args) {
        Check.sentence("if `which` is `SOURCE`, `BLOCK` or `OUTPUT`, answers the length of that list", Promise12LengthTest::eachList);
        Check.sentence("(0 for an empty one).", Promise12LengthTest::emptyList);
        Check.sentence("Otherwise answers `BAD_ARGUMENT`.", Promise12LengthTest::otherList);
        Check.sentence("Nothing changes.", Promise12LengthTest::nothingChanges);
        Check.end("Promise12LengthTest");
    }

    private static void lengths(String when, OptimalParser x, int source, int block, int output) {
        Check.due(when + ": length(SOURCE)", x.length(OptimalParser.SOURCE), source);
        Check.due(when + ": length(BLOCK)", x.length(OptimalParser.BLOCK), block);
        Check.due(when + ": length(OUTPUT)", x.length(OptimalParser.OUTPUT), output);
    }

    private static void eachList() {
        OptimalParser x = Check.usual();
        x.put(1);
        lengths("after put", x, 1, 0, 0);
        x.echo(1, 31);
        lengths("with a full SOURCE", x, 32, 0, 0);
        x.encode();
        lengths("after encode", x, 32, 6, 0);
        x.decode();
        lengths("after decode", x, 32, 6, 32);
        x.cut(OptimalParser.SOURCE, 3);
        x.cut(OptimalParser.BLOCK, 2);
        lengths("after cuts", x, 3, 2, 32);
        for (int i = 3; i <= 64; i++) {
            x.feed(0);
            lengths("after feed", x, 3, i, 32);
        }
        x.feed(0);
        lengths("after feed on a full BLOCK", x, 3, 64, 32);
        x.adopt();
        lengths("after adopt", x, 32, 64, 32);
        lengths("three lists", Check.busy(), 4, 3, 3);
        lengths("three full lists", Check.full(), 32, 64, 32);
    }

    private static void emptyList() {
        OptimalParser x = Check.usual();
        lengths("at the start", x, 0, 0, 0);
        OptimalParser y = Check.full();
        y.cut(OptimalParser.SOURCE, 0);
        lengths("with a SOURCE made empty", y, 0, 64, 32);
        y.cut(OptimalParser.BLOCK, 0);
        lengths("with a BLOCK made empty", y, 0, 0, 32);
        y.feed(0);
        y.decode();
        lengths("with an OUTPUT made empty", y, 0, 1, 0);
    }

    private static void otherList() {
        for (OptimalParser x : new OptimalParser[] {Check.usual(), Check.busy(), Check.full()}) {
            for (int which : Check.cells(-1, -2, -3, 3, 4, 255, 256, 257, 258, Check.LOW, Check.LOW + 1, Check.HIGH, Check.HIGH - 1)) {
                Check.stays("length(" + which + ")", x, OptimalParser.BAD_ARGUMENT, () -> x.length(which));
            }
        }
    }

    private static void nothingChanges() {
        OptimalParser x = Check.busy();
        for (int which = -1; which <= 3; which++) {
            x.length(which);
            Check.lists("after length(" + which + ")", x, Check.BUSY_SOURCE, Check.BUSY_BLOCK, Check.BUSY_OUTPUT);
        }
    }
}
