import java.util.Arrays;

/** Promise 11: decode accepts legal blocks and refuses the others with the first reason met. */
public final class Promise11DecodeTest {
    public static void main(String[] args) {
        accepted();
        shortBlocks();
        badFields();
        badExtensions();
        overflows();
        badEnds();
        badOffsets();
        orderOfRefusals();
        outputStays();
        anyCells();
        Check.end("Promise11DecodeTest");
    }

    private static void accepts(OptimalParser x, int[] block, int... want) {
        Check.setSource(x, 5, 5, 5);
        Check.setBlock(x, block);
        Check.due("decode() of " + Arrays.toString(block), x.decode(), want.length);
        Check.lists("decoded " + Arrays.toString(block), x, Check.cells(5, 5, 5), block, want);
    }

    private static void refuses(OptimalParser x, int want, int... block) {
        int[] output = Check.list(x, OptimalParser.OUTPUT);
        Check.setSource(x, 5, 5, 5);
        Check.setBlock(x, block);
        Check.due("decode() of " + Arrays.toString(block), x.decode(), want);
        Check.lists("refused " + Arrays.toString(block), x, Check.cells(5, 5, 5), block, output);
    }

    private static OptimalParser usual() {
        return new OptimalParser(15, 255, 4, 0);
    }

    private static OptimalParser small() {
        return new OptimalParser(2, 2, 3, 0);
    }

    private static void accepted() {
        accepts(usual(), Check.cells(0));
        accepts(usual(), Check.cells(16, 200), 200);
        accepts(usual(), Check.cells(21, 97, 1, 0, 0), Check.same(97, 10));
        accepts(usual(), Check.cells(48, 1, 2, 3, 3, 0, 16, 9), 1, 2, 3, 1, 2, 3, 1, 9);
        accepts(usual(), Check.cells(48, 1, 2, 3, 2, 0, 0), 1, 2, 3, 2, 3, 2, 3);
        accepts(usual(), Check.cells(16, 1, 1, 0, 0, 5, 0, 0), Check.same(1, 9));
        accepts(usual(), Check.cells(31, 7, 1, 0, 12, 0), Check.same(7, 32));
        accepts(usual(), Check.join(Check.cells(240, 17), Check.counting(1, 32)), Check.counting(1, 32));
        accepts(usual(), Check.join(Check.cells(240, 0), Check.counting(1, 15)), Check.counting(1, 15));
        accepts(small(), Check.cells(32, 0, 8, 9), 8, 9);
        accepts(small(), Check.cells(32, 2, 2, 1, 1, 2, 3, 4, 5, 6, 7), 1, 2, 3, 4, 5, 6, 7);
        accepts(small(), Check.cells(18, 6, 1, 0, 2, 2, 0, 0), Check.same(6, 10));
        accepts(small(), Check.cells(34, 0, 6, 7, 2, 0, 1, 16, 1), 6, 7, 6, 7, 6, 7, 6, 7, 1);
        OptimalParser tail = new OptimalParser(15, 255, 4, 3);
        accepts(tail, Check.cells(0));
        accepts(tail, Check.cells(32, 1, 2), 1, 2);
        accepts(tail, Check.cells(16, 1, 1, 0, 48, 1, 2, 3), 1, 1, 1, 1, 1, 1, 2, 3);
        // An accepted block replaces a longer OUTPUT whole.
        OptimalParser x = usual();
        accepts(x, Check.cells(31, 7, 1, 0, 12, 0), Check.same(7, 32));
        accepts(x, Check.cells(32, 1, 2), 1, 2);
        accepts(x, Check.cells(0));
    }

    private static void shortBlocks() {
        int wants = OptimalParser.SHORT;
        refuses(usual(), wants);
        refuses(usual(), wants, 16);
        refuses(usual(), wants, 32, 1);
        refuses(usual(), wants, 240);
        refuses(usual(), wants, 240, 255);
        refuses(usual(), wants, 240, 255, 255);
        refuses(usual(), wants, 240, 0);
        refuses(usual(), wants, Check.join(Check.cells(240, 0), Check.same(1, 14)));
        refuses(usual(), wants, 16, 1, 1);
        refuses(usual(), wants, 0, 1);
        refuses(usual(), wants, 16, 1, 1, 0);
        refuses(usual(), wants, 31, 1, 1, 0);
        refuses(usual(), wants, 31, 1, 1, 0, 0);
        refuses(small(), wants, 32);
        refuses(small(), wants, 32, 2, 2);
        refuses(small(), wants, 18, 6, 1, 0);
        refuses(small(), wants, 18, 6, 1, 0, 2, 2);
        refuses(new OptimalParser(15, 255, 4, 3), wants, 16, 1, 1, 0);
        refuses(small(), wants, Check.join(Check.cells(32), Check.same(2, 63)));
    }

    private static void badFields() {
        int wants = OptimalParser.BAD_FIELD;
        refuses(small(), wants, 48);
        refuses(small(), wants, 3);
        refuses(small(), wants, 48, 1, 2, 3);
        refuses(small(), wants, 255);
        refuses(small(), wants, 19, 6, 1, 0, 0);
        refuses(small(), wants, 16, 6, 1, 0, 3);
        refuses(new OptimalParser(14, 255, 4, 0), wants, 240);
        refuses(new OptimalParser(14, 255, 4, 0), wants, 15);
        refuses(new OptimalParser(14, 255, 4, 0), OptimalParser.SHORT, 224);
        refuses(usual(), OptimalParser.SHORT, 255);
    }

    private static void badExtensions() {
        int wants = OptimalParser.BAD_EXTENSION;
        refuses(small(), wants, 32, 3);
        refuses(small(), wants, 32, 255);
        refuses(small(), wants, 32, 2, 3);
        refuses(small(), wants, 18, 6, 1, 0, 3, 0);
        refuses(small(), wants, 18, 6, 1, 0, 2, 2, 255);
        refuses(new OptimalParser(15, 254, 4, 0), wants, 240, 255);
        refuses(new OptimalParser(15, 254, 4, 0), OptimalParser.SHORT, 240, 254);
    }

    private static void overflows() {
        int wants = OptimalParser.OVERFLOW;
        refuses(usual(), wants, Check.join(Check.cells(240, 18), Check.counting(1, 33)));
        refuses(usual(), wants, Check.join(Check.cells(240, 18), Check.counting(1, 40)));
        refuses(usual(), OptimalParser.SHORT, Check.join(Check.cells(240, 18), Check.counting(1, 32)));
        refuses(usual(), wants, 31, 7, 1, 0, 13, 0);
        refuses(usual(), wants, 31, 7, 1, 0, 13);
        refuses(usual(), wants, 31, 7, 1, 0, 255, 255, 255, 0);
        refuses(usual(), wants, 31, 7, 1, 0, 12, 16, 1);
        refuses(usual(), wants, 31, 7, 1, 0, 9, 0, 1, 0, 0);
        refuses(usual(), wants, Check.join(Check.cells(31, 7, 1, 0, 0, 224), Check.same(1, 14)));
        refuses(small(), wants, Check.join(Check.cells(18, 6, 1, 0), Check.same(2, 14), Check.cells(0, 0)));
        accepts(small(), Check.join(Check.cells(18, 6, 1, 0), Check.same(2, 13), Check.cells(0, 0)), Check.same(6, 32));
    }

    private static void badEnds() {
        int wants = OptimalParser.BAD_END;
        refuses(usual(), wants, 1);
        refuses(usual(), wants, 15);
        refuses(usual(), wants, 17, 1);
        refuses(usual(), wants, 16, 1, 1, 0, 1);
        OptimalParser tail = new OptimalParser(15, 255, 4, 3);
        refuses(tail, wants, 16, 1, 1, 0, 0);
        refuses(tail, wants, 16, 1, 1, 0, 32, 1, 2);
        refuses(tail, wants, 16, 1, 1, 0, 49, 1, 2, 3);
        refuses(tail, wants, 1);
        // The literals in front of a match are not held against T, and a second match changes nothing.
        refuses(tail, wants, 64, 1, 2, 3, 4, 1, 0, 64, 1, 2, 3, 4, 1, 0, 32, 1, 2);
    }

    private static void badOffsets() {
        int wants = OptimalParser.BAD_OFFSET;
        refuses(usual(), wants, 0, 1, 0, 0);
        refuses(usual(), wants, 0, 0, 0);
        refuses(usual(), wants, 16, 1, 0, 0, 0);
        refuses(usual(), wants, 16, 1, 2, 0, 0);
        refuses(usual(), wants, 16, 1, 1, 1, 0);
        refuses(usual(), wants, 16, 1, 0, 1, 0);
        refuses(usual(), wants, 16, 1, 255, 255, 0);
        refuses(usual(), wants, 16, 1, 1, 0, 0, 6, 0, 0);
        accepts(usual(), Check.cells(16, 1, 1, 0, 0, 5, 0, 0), Check.same(1, 9));
        accepts(usual(), Check.cells(32, 1, 2, 2, 0, 0), 1, 2, 1, 2, 1, 2);
    }

    private static void orderOfRefusals() {
        refuses(small(), OptimalParser.BAD_FIELD, 35, 3);
        refuses(small(), OptimalParser.BAD_EXTENSION, Check.join(Check.cells(32), Check.same(2, 40), Check.cells(3)));
        refuses(small(), OptimalParser.SHORT, Check.join(Check.cells(32), Check.same(2, 40), Check.cells(0, 1)));
        // The offset is looked at before the extension of the match, the extension before the room.
        refuses(small(), OptimalParser.BAD_OFFSET, 18, 6, 2, 0, 3);
        refuses(small(), OptimalParser.BAD_OFFSET, 18, 6, 2, 0);
        refuses(small(), OptimalParser.BAD_EXTENSION, Check.join(Check.cells(18, 6, 1, 0), Check.same(2, 30), Check.cells(3)));
        refuses(small(), OptimalParser.SHORT, Check.join(Check.cells(18, 6, 1, 0), Check.same(2, 30)));
        // With the block at its end the field of the match decides, not the tail; both answer BAD_END.
        refuses(new OptimalParser(15, 255, 4, 3), OptimalParser.BAD_END, 16, 1, 1, 0, 17, 1);
        refuses(usual(), OptimalParser.SHORT, 31, 1, 0);
        // A match may fill the result, and the literals behind it overflow before the end is looked at.
        refuses(new OptimalParser(15, 255, 4, 3), OptimalParser.OVERFLOW, 31, 7, 1, 0, 12, 17, 1);
        refuses(new OptimalParser(15, 255, 4, 3), OptimalParser.BAD_END, 31, 7, 1, 0, 12, 0);
    }

    private static void outputStays() {
        OptimalParser x = Check.busy();
        int[][] blocks = {{}, {96, 9, 9, 9, 9, 9}, {17, 9}, {16, 9, 2, 0, 0}, {21, 9, 1, 0}, {31, 9, 1, 0, 13, 0}};
        for (int[] block : blocks) {
            Check.setBlock(x, block);
            Check.due("refused", x.decode() < 0 ? 1 : 0, 1);
            Check.lists("after a refused block", x, Check.BUSY_SOURCE, block, Check.BUSY_OUTPUT);
        }
    }

    private static void anyCells() {
        Dice dice = new Dice(3);
        for (int i = 0; i < 6000; i++) {
            int[] n = {2 + dice.below(5), 2 + dice.below(4), 3 + dice.below(4), dice.below(4)};
            OptimalParser x = new OptimalParser(n[0], n[1], n[2], n[3]);
            Model model = new Model(n[0], n[1], n[2], n[3]);
            int cells = dice.below(dice.below(4) == 0 ? 65 : 16);
            for (int c = 0; c < cells; c++) {
                int cell = dice.below(3) == 0 ? 16 * dice.below(n[0] + 1) + dice.below(n[0] + 1) : dice.below(4);
                x.feed(cell);
                model.feed(cell);
            }
            Check.due("decode() for " + model, x.decode(), model.decode());
            Check.due("OUTPUT for " + model, Check.list(x, OptimalParser.OUTPUT), Model.array(model.output));
        }
    }
}
