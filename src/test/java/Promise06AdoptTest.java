/** Promise 6: adopt makes SOURCE a copy of OUTPUT. */
public final class Promise06AdoptTest {
    public static void main(String[] args) {
        OptimalParser empty = new OptimalParser(15, 255, 4, 0);
        Check.due("adopt() of nothing", empty.adopt(), 0);
        Check.setSource(empty, 1, 2, 3);
        Check.due("adopt() of nothing over cells", empty.adopt(), 0);
        Check.lists("after it", empty, new int[0], new int[0], new int[0]);

        OptimalParser x = Check.busy();
        Check.due("adopt() of fewer cells", x.adopt(), 3);
        Check.lists("after adopt()", x, Check.BUSY_OUTPUT, Check.BUSY_BLOCK, Check.BUSY_OUTPUT);
        Check.due("adopt() again", x.adopt(), 3);
        x.put(99);
        Check.lists("after put", x, Check.cells(1, 2, 3, 99), Check.BUSY_BLOCK, Check.BUSY_OUTPUT);
        x.cut(OptimalParser.SOURCE, 0);
        x.put(77);
        Check.lists("after cut and put", x, Check.cells(77), Check.BUSY_BLOCK, Check.BUSY_OUTPUT);
        Check.due("adopt() of more cells", x.adopt(), 3);
        Check.lists("after it", x, Check.BUSY_OUTPUT, Check.BUSY_BLOCK, Check.BUSY_OUTPUT);
        x.decode();
        Check.lists("decode() behind adopt()", x, Check.BUSY_OUTPUT, Check.BUSY_BLOCK, Check.cells(8, 9));

        OptimalParser whole = new OptimalParser(15, 255, 4, 0);
        Check.setBlock(whole, 31, 201, 1, 0, 12, 0);
        Check.due("decode() of 32 cells", whole.decode(), 32);
        Check.due("adopt() of 32 cells", whole.adopt(), 32);
        Check.lists("after it", whole, Check.same(201, 32), Check.cells(31, 201, 1, 0, 12, 0), Check.same(201, 32));
        Check.due("put() behind it", whole.put(1), OptimalParser.FULL);
        Check.setBlock(whole, 0);
        whole.decode();
        Check.due("adopt() of an OUTPUT made empty", whole.adopt(), 0);
        Check.end("Promise06AdoptTest");
    }
}
