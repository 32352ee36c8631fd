/** Promise 1: the four numbers are brought into their ranges, and the lists are empty at the start. */
public final class Promise01ConstructorTest {
    private static final int LOW = Integer.MIN_VALUE;
    private static final int HIGH = Integer.MAX_VALUE;

    public static void main(String[] args) {
        start();
        fieldLimit();
        extLimit();
        minMatch();
        tail();
        numbersStay();
        constants();
        Check.end("Promise01ConstructorTest");
    }

    private static void start() {
        int[][] arguments = {{15, 255, 4, 0}, {2, 2, 3, 8}, {LOW, LOW, LOW, LOW}, {HIGH, HIGH, HIGH, HIGH}};
        for (int[] a : arguments) {
            OptimalParser x = new OptimalParser(a[0], a[1], a[2], a[3]);
            Check.lists("at the start", x, new int[0], new int[0], new int[0]);
        }
    }

    /** F shows in the token and in the extension of a final sequence of 20 literals. */
    private static void fieldLimit() {
        int[][] given = {{LOW, 2}, {-1, 2}, {0, 2}, {1, 2}, {2, 2}, {3, 3}, {9, 9}, {14, 14}, {15, 15}, {16, 15}, {HIGH, 15}};
        for (int[] g : given) {
            OptimalParser x = new OptimalParser(g[0], 255, 4, 0);
            Check.setSource(x, Check.counting(100, 20));
            Check.due("F from " + g[0] + ": encode()", x.encode(), 22);
            Check.due("F from " + g[0] + ": token", x.cellAt(OptimalParser.BLOCK, 0), 16 * g[1]);
            Check.due("F from " + g[0] + ": extension", x.cellAt(OptimalParser.BLOCK, 1), 20 - g[1]);
            if (g[1] < 15) {
                Check.setBlock(x, 16 * (g[1] + 1));
                Check.due("F from " + g[0] + ": decode() of a field above it", x.decode(), OptimalParser.BAD_FIELD);
            }
        }
    }

    /** An extension cell of E goes on, one above it is refused. */
    private static void extLimit() {
        int[][] given = {{LOW, 2}, {-7, 2}, {0, 2}, {1, 2}, {2, 2}, {3, 3}, {100, 100}, {254, 254}, {255, 255}, {256, 255}, {HIGH, 255}};
        for (int[] g : given) {
            OptimalParser x = new OptimalParser(2, g[0], 4, 0);
            Check.setBlock(x, 32, g[1]);
            Check.due("E from " + g[0] + ": decode() of E alone", x.decode(), OptimalParser.SHORT);
            Check.setBlock(x, 32, g[1] - 1);
            for (int i = 0; i < g[1] + 1; i++) {
                x.feed(i);
            }
            int below = g[1] < 32 ? g[1] + 1 : OptimalParser.SHORT;
            Check.due("E from " + g[0] + ": decode() below E", x.decode(), below);
            if (g[1] < 255) {
                Check.setBlock(x, 32, g[1] + 1);
                Check.due("E from " + g[0] + ": decode() above E", x.decode(), OptimalParser.BAD_EXTENSION);
            }
            Check.setSource(x, Check.counting(100, 32));
            int extension = 30 / g[1] + 1;
            Check.due("E from " + g[0] + ": encode()", x.encode(), 1 + extension + 32);
            Check.due("E from " + g[0] + ": last extension cell", x.cellAt(OptimalParser.BLOCK, extension), 30 % g[1]);
        }
        // An E of 256 would end the extension at 255 and find no room for the match.
        OptimalParser above = new OptimalParser(2, 256, 4, 0);
        Check.setBlock(above, 18, 6, 1, 0, 255);
        Check.due("E from 256: decode() of a match with 255", above.decode(), OptimalParser.SHORT);
        // 255 and 254 differ only in whether the cell 254 ends the extension.
        OptimalParser below = new OptimalParser(2, 254, 4, 0);
        Check.setBlock(below, 32, 254, 255);
        Check.due("E = 254: decode() of 254, 255", below.decode(), OptimalParser.BAD_EXTENSION);
    }

    /** K shows in the length of the match that the token's 0 stands for. */
    private static void minMatch() {
        int[][] given = {{LOW, 3}, {-1, 3}, {2, 3}, {3, 3}, {4, 4}, {5, 5}, {6, 6}, {7, 6}, {HIGH, 6}};
        for (int[] g : given) {
            OptimalParser x = new OptimalParser(15, 255, g[0], 0);
            Check.setBlock(x, 16, 7, 1, 0, 0);
            Check.due("K from " + g[0] + ": decode()", x.decode(), 1 + g[1]);
        }
    }

    /** T shows in the shortest final sequence that is accepted behind a match. */
    private static void tail() {
        int[][] given = {{LOW, 0}, {-1, 0}, {0, 0}, {1, 1}, {5, 5}, {7, 7}, {8, 8}, {9, 8}, {HIGH, 8}};
        for (int[] g : given) {
            OptimalParser x = new OptimalParser(15, 255, 4, g[0]);
            for (int literals = 0; literals <= 9; literals++) {
                Check.setBlock(x, Check.join(Check.cells(16, 7, 1, 0, 16 * literals), Check.same(3, literals)));
                int want = literals < g[1] ? OptimalParser.BAD_END : 5 + literals;
                Check.due("T from " + g[0] + ": decode() with " + literals + " at the end", x.decode(), want);
            }
        }
    }

    private static void numbersStay() {
        OptimalParser first = new OptimalParser(2, 2, 3, 1);
        OptimalParser second = new OptimalParser(15, 255, 6, 8);
        for (int round = 0; round < 3; round++) {
            Check.setSource(first, Check.same(7, 32));
            Check.due("round " + round + ": encode() with 2, 2, 3, 1", first.encode(), 19);
            first.decode();
            Check.setSource(second, Check.same(7, 32));
            Check.due("round " + round + ": encode() with 15, 255, 6, 8", second.encode(), 14);
            second.decode();
        }
    }

    private static void constants() {
        Check.due("the constants", Check.cells(OptimalParser.CAPACITY, OptimalParser.BLOCK_CAPACITY,
                OptimalParser.SOURCE, OptimalParser.BLOCK, OptimalParser.OUTPUT,
                OptimalParser.FULL, OptimalParser.BAD_ARGUMENT, OptimalParser.SHORT, OptimalParser.BAD_FIELD,
                OptimalParser.BAD_EXTENSION, OptimalParser.OVERFLOW, OptimalParser.BAD_END,
                OptimalParser.BAD_OFFSET, OptimalParser.DIFFERENT),
                Check.cells(32, 64, 0, 1, 2, -1, -2, -3, -4, -5, -6, -7, -8, -128));
    }
}
