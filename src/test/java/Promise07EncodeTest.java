import java.util.List;

/** Promise 7: encode chooses the one preferred block of the fewest cells. */
public final class Promise07EncodeTest {
    public static void main(String[] args) {
        Check.sentence("`encode()`: BLOCK is replaced by the chosen block for SOURCE; the former cells of BLOCK are lost and "
                + "have no influence.", Promise07EncodeTest::formerBlock);
        Check.sentence("Answers the new length of BLOCK.", Promise07EncodeTest::newLength);
        Check.sentence("Never refused: the longest block ever chosen has 49 cells;", Promise07EncodeTest::longest);
        Check.sentence("the empty SOURCE gives the one cell 0.", Promise07EncodeTest::emptySource);
        Check.sentence("Among all legal blocks whose result is SOURCE, only those with the fewest cells count.",
                Promise07EncodeTest::fewestCells);
        Check.sentence("Of two different ones among these, look at the first sequence, from the front, in which they differ:",
                Promise07EncodeTest::fromTheFront);
        Check.sentence("the block with the smaller L there is preferred;", Promise07EncodeTest::smallerL);
        Check.sentence("with equal L (both are then match sequences), the one with the greater M is preferred;",
                Promise07EncodeTest::greaterM);
        Check.sentence("with equal L and equal M, the one with the smaller D is preferred.", Promise07EncodeTest::smallerD);
        Check.sentence("The chosen block is the one preferred to all the others.", Promise07EncodeTest::preferredToAll);
        Check.sentence("SOURCE and OUTPUT do not change.", Promise07EncodeTest::othersStay);
        Check.end("Promise07EncodeTest");
    }

    private static OptimalParser parser(int... numbers) {
        return new OptimalParser(numbers[0], numbers[1], numbers[2], numbers[3]);
    }

    private static void encodes(String name, OptimalParser x, int[] source, int... want) {
        Check.setSource(x, source);
        int[] output = Check.list(x, OptimalParser.OUTPUT);
        Check.due(name + ": encode()", x.encode(), want.length);
        Check.lists(name, x, source, want, output);
    }

    /** Of two blocks for the same SOURCE, the first is chosen; the second is longer by so many cells. */
    private static void chosen(int[] numbers, int[] source, int[] block, int[] other, int longer) {
        OptimalParser x = parser(numbers);
        Check.setSource(x, source);
        Check.setBlock(x, other);
        Check.due("surplus() of the other block", x.surplus(), longer);
        encodes("the chosen one", x, source, block);
    }

    private static void tie(int[] numbers, int[] source, int[] block, int[] other) {
        chosen(numbers, source, block, other, 0);
    }

    private static void formerBlock() {
        OptimalParser x = Check.usual();
        encodes("over an empty BLOCK", x, Check.same(97, 10), 21, 97, 1, 0, 0);
        encodes("over the same BLOCK", x, Check.same(97, 10), 21, 97, 1, 0, 0);
        Check.setBlock(x, Check.same(255, 64));
        encodes("over a full BLOCK", x, Check.same(97, 10), 21, 97, 1, 0, 0);
        Check.setBlock(x, Check.join(Check.cells(160), Check.same(97, 10)));
        encodes("over another block for SOURCE", x, Check.same(97, 10), 21, 97, 1, 0, 0);
        encodes("a shorter block", x, Check.cells(1, 2), 32, 1, 2);
        encodes("a longer block", x, Check.counting(1, 8), 128, 1, 2, 3, 4, 5, 6, 7, 8);
        Check.due("feed(9) behind it", x.feed(9), 10);
        Check.due("the cell of it", x.cellAt(OptimalParser.BLOCK, 9), 9);
    }

    private static void newLength() {
        for (int length = 0; length <= 32; length++) {
            OptimalParser x = Check.full();
            x.cut(OptimalParser.SOURCE, length);
            int want = 1 + length + (length < 15 ? 0 : 1);
            Check.due("encode() of " + length + " cells", x.encode(), want);
            Check.due("length of BLOCK after it", x.length(OptimalParser.BLOCK), want);
        }
    }

    private static void longest() {
        OptimalParser x = parser(2, 2, 3, 0);
        int[] source = Check.counting(0, 32);
        encodes("49 cells", x, source, Check.join(Check.cells(32), Check.same(2, 15), Check.cells(0), source));
        Check.setBlock(x, Check.same(1, 64));
        encodes("49 cells over a full BLOCK", x, source, Check.join(Check.cells(32), Check.same(2, 15), Check.cells(0), source));
        for (int f = 2; f <= 15; f++) {
            for (int e = 2; e <= 255; e++) {
                OptimalParser y = parser(f, e, 3 + f % 4, e % 9);
                encodes("32 cells with F = " + f + ", E = " + e, y, source,
                        Check.join(Check.cells(16 * f), Probe.extension(f, e, 32), source));
            }
        }
        Dice dice = new Dice(49);
        for (int i = 0; i < 3000; i++) {
            OptimalParser y = parser(2 + dice.below(14), 2 + dice.below(4), 3 + dice.below(4), dice.below(9));
            Check.setSource(y, dice.source(32));
            int answer = y.encode();
            Check.due("encode() within 1..49", answer >= 1 && answer <= 49 ? 1 : answer, 1);
        }
    }

    private static void emptySource() {
        for (int tail = 0; tail <= 8; tail++) {
            for (int f : Check.cells(2, 3, 15)) {
                OptimalParser x = parser(f, 2, 3, tail);
                encodes("the empty SOURCE", x, Check.NONE, 0);
                Check.setBlock(x, Check.same(9, 64));
                encodes("the empty SOURCE over a full BLOCK", x, Check.NONE, 0);
            }
        }
        for (int tail = 0; tail <= 8; tail++) {
            OptimalParser x = parser(15, 255, 3, tail);
            x.repeat(9, 32);
            x.encode();
            encodes("a SOURCE of equal cells made empty", x, Check.NONE, 0);
            Check.setSource(x, Check.FULL_SOURCE);
            x.encode();
            encodes("a SOURCE of unequal cells made empty", x, Check.NONE, 0);
        }
    }

    private static void fewestCells() {
        // More literals in front are taken where that saves cells: one match of 6 for matches of 3 and 4 ...
        chosen(Check.cells(15, 255, 3, 0), Check.cells(1, 2, 3, 9, 2, 3, 4, 5, 6, 7, 8, 1, 2, 3, 4, 5, 6, 7),
                Check.cells(195, 1, 2, 3, 9, 2, 3, 4, 5, 6, 7, 8, 1, 8, 0, 0),
                Check.cells(176, 1, 2, 3, 9, 2, 3, 4, 5, 6, 7, 8, 11, 0, 1, 8, 0, 0), 2);
        chosen(Check.cells(3, 255, 3, 0), Check.cells(2, 3, 3, 2, 3, 3, 3, 3, 3),
                Check.cells(49, 2, 2, 3, 3, 2, 3, 1, 0, 0), Check.cells(48, 0, 2, 3, 3, 3, 0, 48, 0, 3, 3, 3), 2);
        // ... also no match at all, where the tail would cost more than the match saves.
        chosen(Check.cells(2, 255, 3, 2), Check.cells(3, 2, 3, 2, 3, 2, 3),
                Check.cells(32, 5, 3, 2, 3, 2, 3, 2, 3), Check.cells(32, 0, 3, 2, 2, 0, 32, 0, 2, 3), 1);
        // A shorter match in front of another one.
        chosen(Check.cells(3, 2, 4, 0), Check.cells(2, 1, 2, 2, 1, 2, 2, 1, 2, 1, 2, 1),
                Check.cells(49, 0, 2, 1, 2, 3, 0, 0, 2, 0, 0), Check.cells(50, 0, 2, 1, 2, 3, 0, 48, 0, 1, 2, 1), 1);
        chosen(Check.cells(3, 2, 3, 1), Check.cells(3, 1, 3, 3, 1, 3, 3, 1, 3, 1, 3, 3, 1),
                Check.cells(50, 0, 3, 1, 3, 3, 0, 1, 5, 0, 16, 1), Check.cells(51, 0, 3, 1, 3, 3, 0, 0, 48, 1, 1, 3, 3, 1), 2);
        // A block of the fewest cells that is not legal doesn't count: the tail is too short in 21, 97, 1, 0, 0.
        encodes("a tail of one cell", parser(15, 255, 4, 1), Check.same(97, 10), 20, 97, 1, 0, 16, 97);
    }

    private static void fromTheFront() {
        // The last sequence of the other block is the preferred one, but the first decides.
        tie(Check.cells(2, 2, 3, 0), Check.cells(2, 4, 4, 2, 4, 4, 4, 4),
                Check.cells(32, 1, 2, 4, 4, 3, 0, 32, 0, 4, 4), Check.cells(32, 2, 1, 2, 4, 4, 2, 4, 1, 0, 0));
        // The first sequences are equal; the second ones decide, by L, by M and by D.
        tie(Check.cells(15, 2, 3, 0), Check.cells(4, 4, 4, 4, 1, 1, 1, 1),
                Check.cells(16, 4, 1, 0, 16, 1, 1, 0, 0), Check.cells(16, 4, 1, 0, 64, 1, 1, 1, 1));
        tie(Check.cells(2, 255, 3, 0), Check.cells(1, 1, 1, 1, 1, 3, 1, 1, 1, 1, 3),
                Check.cells(17, 1, 1, 0, 18, 3, 5, 0, 0, 0), Check.cells(17, 1, 1, 0, 17, 3, 5, 0, 16, 3));
        tie(Check.cells(2, 2, 3, 0), Check.cells(4, 4, 4, 4, 2, 4, 4, 4),
                Check.cells(16, 4, 1, 0, 16, 2, 4, 0, 0), Check.cells(16, 4, 1, 0, 16, 2, 5, 0, 0));
    }

    private static void smallerL() {
        // A match sequence against the final one.
        tie(Check.cells(15, 255, 3, 0), Check.cells(2, 3, 2, 3, 2), Check.cells(32, 2, 3, 2, 0, 0), Check.cells(80, 2, 3, 2, 3, 2));
        // Two match sequences.
        tie(Check.cells(3, 255, 3, 0), Check.same(1, 7), Check.cells(19, 1, 1, 0, 0, 0), Check.cells(34, 1, 1, 1, 0, 0));
        // The smaller L goes before the greater M, and before the smaller D.
        tie(Check.cells(15, 255, 3, 0), Check.cells(3, 3, 3, 3, 1, 3, 1, 3, 1, 1),
                Check.cells(16, 3, 1, 0, 17, 1, 2, 0, 16, 1), Check.cells(81, 3, 3, 3, 3, 1, 2, 0, 16, 1));
        tie(Check.cells(15, 2, 3, 0), Check.cells(1, 3, 1, 3, 1, 1, 1, 1),
                Check.cells(32, 1, 3, 2, 0, 0, 1, 0, 0), Check.cells(80, 1, 3, 1, 3, 1, 1, 0, 0));
    }

    private static void greaterM() {
        tie(Check.cells(2, 2, 3, 0), Check.same(3, 6), Check.cells(18, 3, 1, 0, 0, 0), Check.cells(17, 3, 1, 0, 16, 3));
        tie(Check.cells(15, 255, 4, 0), Check.same(7, 20), Check.cells(31, 7, 1, 0, 0, 0), Check.cells(30, 7, 1, 0, 16, 7));
        // The greater M goes before the smaller D, and before fewer sequences.
        tie(Check.cells(2, 2, 3, 0), Check.cells(3, 4, 3, 4, 3, 4, 2, 3, 4, 3, 4, 3),
                Check.cells(33, 0, 3, 4, 2, 0, 18, 2, 7, 0, 0, 0), Check.cells(33, 0, 3, 4, 2, 0, 17, 2, 5, 0, 16, 3));
        tie(Check.cells(2, 255, 3, 1), Check.cells(2, 2, 2, 2, 2, 2, 3, 3, 2, 2, 2, 3),
                Check.cells(18, 2, 1, 0, 0, 32, 0, 3, 3, 5, 0, 16, 3), Check.cells(17, 2, 1, 0, 32, 5, 2, 3, 3, 2, 2, 2, 3));
    }

    private static void smallerD() {
        tie(Check.cells(15, 255, 3, 0), Check.cells(1, 2, 3, 4, 1, 2, 3, 4, 9, 1, 2, 3, 4),
                Check.cells(65, 1, 2, 3, 4, 4, 0, 17, 9, 5, 0, 0), Check.cells(65, 1, 2, 3, 4, 4, 0, 17, 9, 9, 0, 0));
        // A match may begin in what it makes itself: both distances reach only cells of 4.
        tie(Check.cells(2, 2, 3, 0), Check.cells(4, 4, 4, 4, 2, 4, 4, 4),
                Check.cells(16, 4, 1, 0, 16, 2, 4, 0, 0), Check.cells(16, 4, 1, 0, 16, 2, 5, 0, 0));
        // Four times the same four cells: the third has two places to copy from, the fourth has three.
        int[] source = {1, 2, 3, 4, 50, 1, 2, 3, 4, 51, 1, 2, 3, 4, 52, 1, 2, 3, 4};
        for (int third = 5; third <= 10; third += 5) {
            for (int fourth = third == 5 ? 10 : 5; fourth <= 15; fourth += 5) {
                tie(Check.cells(15, 255, 4, 0), source,
                        Check.cells(80, 1, 2, 3, 4, 50, 5, 0, 16, 51, 5, 0, 16, 52, 5, 0, 0),
                        Check.cells(80, 1, 2, 3, 4, 50, 5, 0, 16, 51, third, 0, 16, 52, fourth, 0, 0));
            }
        }
    }

    private static final int[][] NUMBERS = {{2, 2, 3, 0}, {2, 2, 3, 1}, {2, 3, 3, 2}, {3, 2, 4, 0}, {15, 255, 3, 0},
        {15, 255, 3, 3}, {15, 255, 4, 5}, {4, 2, 5, 1}, {2, 255, 6, 8}, {2, 2, 3, 8}, {6, 5, 3, 4}};

    private static void preferredToAll() {
        modelAgainstAllBlocks();
        everyShortSource();
        longSources();
    }

    private static void against(int[] numbers, int[] source) {
        OptimalParser x = parser(numbers);
        Model model = new Model(numbers[0], numbers[1], numbers[2], numbers[3]);
        for (int cell : source) {
            x.put(cell);
            model.put(cell);
        }
        Check.due("encode() for " + model, x.encode(), model.encode());
        Check.due("BLOCK for " + model, Check.list(x, OptimalParser.BLOCK), Model.array(model.block));
        Check.due("decode() for " + model, x.decode(), source.length);
        Check.due("OUTPUT for " + model, Check.list(x, OptimalParser.OUTPUT), source);
    }

    /** The model itself, held against the list of all legal blocks. */
    private static void modelAgainstAllBlocks() {
        Dice dice = new Dice(11);
        for (int[] numbers : NUMBERS) {
            for (int i = 0; i < 30; i++) {
                Model model = new Model(numbers[0], numbers[1], numbers[2], numbers[3]);
                for (int cell : dice.source(13)) {
                    model.put(cell);
                }
                List<Model.Sequence> all = model.chosenOfAll();
                Check.due("the model for " + model, Model.array(model.cellsOf(model.chosen())), Model.array(model.cellsOf(all)));
            }
        }
    }

    /** All sources of two kinds of cell up to 9 cells. */
    private static void everyShortSource() {
        for (int[] numbers : NUMBERS) {
            for (int length = 0; length <= 9; length++) {
                for (int bits = 0; bits < 1 << length; bits++) {
                    int[] source = new int[length];
                    for (int i = 0; i < length; i++) {
                        source[i] = bits >> i & 1;
                    }
                    against(numbers, source);
                }
            }
        }
    }

    private static void longSources() {
        Dice dice = new Dice(7);
        for (int i = 0; i < 1500; i++) {
            int[] numbers = {2 + dice.below(14), 2 + dice.below(dice.below(2) == 0 ? 4 : 254), 3 + dice.below(4), dice.below(9)};
            against(numbers, dice.source(32));
        }
        for (int[] numbers : NUMBERS) {
            for (int i = 0; i < 40; i++) {
                against(numbers, dice.source(32));
            }
        }
    }

    private static void othersStay() {
        OptimalParser x = Check.busy();
        x.encode();
        Check.lists("after encode()", x, Check.BUSY_SOURCE, Check.cells(64, 5, 6, 7, 8), Check.BUSY_OUTPUT);
        OptimalParser y = Check.full();
        y.encode();
        Check.lists("after encode() of a full SOURCE", y, Check.FULL_SOURCE,
                Check.join(Check.cells(240, 17), Check.FULL_SOURCE), Check.FULL_OUTPUT);
        y.cut(OptimalParser.SOURCE, 0);
        y.encode();
        Check.lists("after encode() of an empty SOURCE", y, Check.NONE, Check.cells(0), Check.FULL_OUTPUT);
    }
}
