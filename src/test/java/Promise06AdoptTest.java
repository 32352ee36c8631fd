/** Promise 6: adopt makes SOURCE a copy of OUTPUT. */
public final class Promise06AdoptTest {
    public static void main(String[] args) {
        Check.sentence("`adopt()`: SOURCE becomes a copy of OUTPUT; its former cells are lost.", Promise06AdoptTest::copies);
        Check.sentence("Answers the new length of SOURCE, which is 0 when OUTPUT is empty.", Promise06AdoptTest::empty);
        Check.sentence("Never refused.", Promise06AdoptTest::neverRefused);
        Check.sentence("OUTPUT and BLOCK do not change,", Promise06AdoptTest::othersStay);
        Check.sentence("and later changes of SOURCE do not touch OUTPUT.", Promise06AdoptTest::laterChanges);
        Check.end("Promise06AdoptTest");
    }

    private static OptimalParser holding(int source, int output) {
        OptimalParser x = new OptimalParser(15, 255, 4, 0);
        Check.setBlock(x, Probe.literals(15, 255, output));
        x.decode();
        Check.setSource(x, Check.counting(100, source));
        Check.setBlock(x, 1, 2, 3);
        return x;
    }

    private static void copies() {
        for (int source = 0; source <= 32; source++) {
            for (int output = 0; output <= 32; output++) {
                OptimalParser x = holding(source, output);
                Check.due("adopt() of " + output + " over " + source, x.adopt(), output);
                Check.due("SOURCE after it", Check.list(x, OptimalParser.SOURCE), Check.counting(40, output));
            }
        }
        // A copy of fewer cells leaves none of the former ones to be echoed or encoded.
        OptimalParser x = holding(32, 2);
        x.adopt();
        Check.due("echo(3, 1) behind it", x.echo(3, 1), OptimalParser.BAD_ARGUMENT);
        Check.due("encode() behind it", x.encode(), 3);
    }

    private static void empty() {
        OptimalParser x = Check.usual();
        Check.due("adopt() at the start", x.adopt(), 0);
        x.repeat(9, 32);
        Check.due("adopt() of nothing over a full SOURCE", x.adopt(), 0);
        Check.lists("after it", x, Check.NONE, Check.NONE, Check.NONE);
        OptimalParser y = Check.full();
        Check.setBlock(y, 0);
        y.decode();
        Check.due("adopt() of an OUTPUT made empty", y.adopt(), 0);
        Check.lists("after it", y, Check.NONE, Check.cells(0), Check.NONE);
    }

    /** Neither a full SOURCE nor a full BLOCK nor a refused decode is in its way. */
    private static void neverRefused() {
        OptimalParser x = Check.full();
        Check.due("adopt() with full lists", x.adopt(), 32);
        Check.due("adopt() a second time", x.adopt(), 32);
        Check.lists("after it", x, Check.FULL_OUTPUT, Check.FULL_BLOCK, Check.FULL_OUTPUT);
        Check.due("put(1) behind it", x.put(1), OptimalParser.FULL);
        OptimalParser y = Check.busy();
        y.feed(1);
        y.decode();
        Check.due("adopt() behind a refused decode()", y.adopt(), 3);
        Check.due("SOURCE after it", Check.list(y, OptimalParser.SOURCE), Check.BUSY_OUTPUT);
    }

    private static void othersStay() {
        OptimalParser x = Check.busy();
        x.adopt();
        Check.lists("after adopt()", x, Check.BUSY_OUTPUT, Check.BUSY_BLOCK, Check.BUSY_OUTPUT);
        OptimalParser y = Check.full();
        y.adopt();
        Check.lists("after adopt()", y, Check.FULL_OUTPUT, Check.FULL_BLOCK, Check.FULL_OUTPUT);
    }

    private static void laterChanges() {
        OptimalParser x = Check.busy();
        x.adopt();
        x.put(99);
        Check.lists("after put", x, Check.cells(1, 2, 3, 99), Check.BUSY_BLOCK, Check.BUSY_OUTPUT);
        x.cut(OptimalParser.SOURCE, 0);
        x.repeat(77, 5);
        Check.lists("after cut and repeat", x, Check.same(77, 5), Check.BUSY_BLOCK, Check.BUSY_OUTPUT);
        x.adopt();
        x.cut(OptimalParser.SOURCE, 1);
        x.echo(1, 4);
        Check.lists("after cut and echo", x, Check.same(1, 5), Check.BUSY_BLOCK, Check.BUSY_OUTPUT);
        x.adopt();
        // Nor does a later change of OUTPUT touch SOURCE.
        x.decode();
        Check.lists("after decode()", x, Check.BUSY_OUTPUT, Check.BUSY_BLOCK, Check.cells(8, 9));
    }
}
