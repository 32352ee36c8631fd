import java.util.List;

/** Promise 7: encode chooses the one preferred block of the fewest cells. */
public final class Promise07EncodeTest {
    public static void main(String[] args) {
        byHand();
        preferences();
        longest();
        formerBlock();
        everyShortSource();
        modelAgainstAllBlocks();
        longSources();
        Check.end("Promise07EncodeTest");
    }

    private static void encodes(String name, OptimalParser x, int[] source, int... want) {
        Check.setSource(x, source);
        int[] output = Check.list(x, OptimalParser.OUTPUT);
        Check.due(name + ": encode()", x.encode(), want.length);
        Check.lists(name, x, source, want, output);
    }

    private static void byHand() {
        OptimalParser x = new OptimalParser(15, 255, 4, 0);
        encodes("the empty SOURCE", x, new int[0], 0);
        encodes("the document's example", x, Check.same(97, 10), 21, 97, 1, 0, 0);
        encodes("one cell", x, Check.cells(255), 16, 255);
        encodes("15 literals", x, Check.counting(1, 15), Check.join(Check.cells(240, 0), Check.counting(1, 15)));
        encodes("14 literals", x, Check.counting(1, 14), Check.join(Check.cells(224), Check.counting(1, 14)));
        encodes("a match with an extension of 0", x, Check.same(3, 20), 31, 3, 1, 0, 0, 0);
        encodes("a match with an extension", x, Check.same(3, 32), 31, 3, 1, 0, 12, 0);
        OptimalParser tail = new OptimalParser(15, 255, 4, 8);
        encodes("fewer cells than T and no match", tail, Check.same(9, 7), Check.join(Check.cells(112), Check.same(9, 7)));
        encodes("a tail of T", tail, Check.same(9, 20), Check.join(Check.cells(23, 9, 1, 0, 128), Check.same(9, 8)));
        OptimalParser small = new OptimalParser(2, 2, 3, 0);
        encodes("an extension of E and 0", small, Check.counting(1, 4), 32, 2, 0, 1, 2, 3, 4);
        encodes("an extension of 1", small, Check.counting(1, 3), 32, 1, 1, 2, 3);
    }

    private static void preferences() {
        // Matching early or late costs the same; the fewer literals in front win, then the longer match.
        OptimalParser x = new OptimalParser(15, 255, 3, 0);
        encodes("a match of K is as short as literals", x, Check.cells(1, 2, 3, 1, 2, 3), 48, 1, 2, 3, 3, 0, 0);
        encodes("the nearest of two distances", x, Check.cells(1, 2, 3, 4, 1, 2, 3, 4, 9, 1, 2, 3, 4),
                65, 1, 2, 3, 4, 4, 0, 17, 9, 5, 0, 0);
        OptimalParser tail = new OptimalParser(15, 255, 3, 1);
        encodes("the longest match that leaves the tail", tail, Check.same(5, 12), 23, 5, 1, 0, 16, 5);
        OptimalParser two = new OptimalParser(15, 255, 4, 5);
        encodes("a tie of a match and literals alone", two, Check.same(97, 10), 16, 97, 1, 0, 80, 97, 97, 97, 97, 97);
    }

    private static void longest() {
        OptimalParser x = new OptimalParser(2, 2, 3, 0);
        int[] source = Check.counting(0, 32);
        encodes("49 cells", x, source, Check.join(Check.cells(32), Check.same(2, 15), Check.cells(0), source));
    }

    private static void formerBlock() {
        OptimalParser x = new OptimalParser(15, 255, 4, 0);
        Check.setBlock(x, Check.same(255, 64));
        encodes("over a full BLOCK", x, Check.same(97, 10), 21, 97, 1, 0, 0);
        encodes("a second time", x, Check.same(97, 10), 21, 97, 1, 0, 0);
        encodes("a shorter SOURCE", x, Check.cells(1, 2), 32, 1, 2);
        x.decode();
        encodes("a longer SOURCE, with an OUTPUT", x, Check.same(97, 10), 21, 97, 1, 0, 0);
    }

    private static final int[][] NUMBERS = {{2, 2, 3, 0}, {2, 2, 3, 1}, {2, 3, 3, 2}, {3, 2, 4, 0}, {15, 255, 3, 0},
        {15, 255, 3, 3}, {15, 255, 4, 5}, {4, 2, 5, 1}, {2, 255, 6, 8}, {2, 2, 3, 8}, {6, 5, 3, 4}};

    private static void against(int[] numbers, int[] source) {
        OptimalParser x = new OptimalParser(numbers[0], numbers[1], numbers[2], numbers[3]);
        Model model = new Model(numbers[0], numbers[1], numbers[2], numbers[3]);
        for (int cell : source) {
            x.put(cell);
            model.put(cell);
        }
        Check.due("encode() for " + model, x.encode(), model.encode());
        Check.due("BLOCK for " + model, Check.list(x, OptimalParser.BLOCK), Model.array(model.block));
        Check.due("decode() for " + model, x.decode(), source.length);
        Check.due("OUTPUT for " + model, Check.list(x, OptimalParser.OUTPUT), source);
    }

    /** All sources of two kinds of cell up to 9 cells. */
    private static void everyShortSource() {
        for (int[] numbers : NUMBERS) {
            for (int length = 0; length <= 9; length++) {
                for (int bits = 0; bits < 1 << length; bits++) {
                    int[] source = new int[length];
                    for (int i = 0; i < length; i++) {
                        source[i] = bits >> i & 1;
                    }
                    against(numbers, source);
                }
            }
        }
    }

    /** The model itself, held against the list of all legal blocks. */
    private static void modelAgainstAllBlocks() {
        Dice dice = new Dice(11);
        for (int[] numbers : NUMBERS) {
            for (int i = 0; i < 30; i++) {
                Model model = new Model(numbers[0], numbers[1], numbers[2], numbers[3]);
                for (int cell : dice.source(13)) {
                    model.put(cell);
                }
                List<Model.Sequence> all = model.chosenOfAll();
                Check.due("the model for " + model, Model.array(model.cellsOf(model.chosen())), Model.array(model.cellsOf(all)));
            }
        }
    }

    private static void longSources() {
        Dice dice = new Dice(7);
        for (int i = 0; i < 1500; i++) {
            int[] numbers = {2 + dice.below(14), 2 + dice.below(dice.below(2) == 0 ? 4 : 254), 3 + dice.below(4), dice.below(9)};
            against(numbers, dice.source(32));
        }
        for (int[] numbers : NUMBERS) {
            for (int i = 0; i < 40; i++) {
                against(numbers, dice.source(32));
            }
        }
    }
}
