/** Promise 1: the four numbers are brought into their ranges, and the lists are empty at the start. */
public final class Promise01ConstructorTest {
    private static final int LOW = Check.LOW;
    private static final int HIGH = Check.HIGH;

    public static void main(String[] args) {
        Check.sentence("`fieldLimit` gives F, least value 2, greatest 15;", Promise01ConstructorTest::fieldLimit);
        Check.sentence("`extLimit` gives E, least value 2, greatest 255;", Promise01ConstructorTest::extLimit);
        Check.sentence("`minMatch` gives K, least value 3, greatest 6;", Promise01ConstructorTest::minMatch);
        Check.sentence("`tail` gives T, least value 0, greatest 8.", Promise01ConstructorTest::tail);
        Check.sentence("Each argument below its least value becomes the least, above its greatest the greatest;",
                Promise01ConstructorTest::outside);
        Check.sentence("a value within its range is taken as it is.", Promise01ConstructorTest::within);
        Check.sentence("This holds for every int, negative ones included, and the constructor refuses nothing.",
                Promise01ConstructorTest::everyInt);
        Check.sentence("At the start all three lists, SOURCE, BLOCK and OUTPUT, are empty.", Promise01ConstructorTest::start);
        Check.sentence("F, E, K and T never change afterwards.", Promise01ConstructorTest::numbersStay);
        Check.end("Promise01ConstructorTest");
    }

    /** F shows in the token and in the extension of a final sequence of 20 literals. */
    private static void fieldLimit() {
        int[][] given = {{LOW, 2}, {-1, 2}, {0, 2}, {1, 2}, {2, 2}, {3, 3}, {9, 9}, {14, 14}, {15, 15}, {16, 15}, {HIGH, 15}};
        for (int[] g : given) {
            OptimalParser x = new OptimalParser(g[0], 255, 4, 0);
            Check.setSource(x, Check.counting(100, 20));
            Check.due("F from " + g[0] + ": encode()", x.encode(), 22);
            Check.due("F from " + g[0] + ": token", x.cellAt(OptimalParser.BLOCK, 0), 16 * g[1]);
            Check.due("F from " + g[0] + ": extension", x.cellAt(OptimalParser.BLOCK, 1), 20 - g[1]);
            Check.due("F from " + g[0] + ": F, E, K, T", Probe.numbers(x), Check.cells(g[1], 255, 4, 0));
        }
    }

    /** An extension cell of E goes on, one below it ends, one above it is refused. */
    private static void extLimit() {
        int[][] given = {{LOW, 2}, {-7, 2}, {0, 2}, {1, 2}, {2, 2}, {3, 3}, {100, 100}, {254, 254}, {255, 255}, {256, 255}, {HIGH, 255}};
        for (int[] g : given) {
            OptimalParser x = new OptimalParser(2, g[0], 4, 0);
            Check.setSource(x, Check.counting(100, 32));
            int extension = 30 / g[1] + 1;
            Check.due("E from " + g[0] + ": encode()", x.encode(), 1 + extension + 32);
            Check.due("E from " + g[0] + ": last extension cell", x.cellAt(OptimalParser.BLOCK, extension), 30 % g[1]);
            // A match whose extension is over finds no room or no end; one that goes on finds nothing to read.
            Check.setBlock(x, 18, 6, 1, 0, g[1] - 1);
            Check.due("E from " + g[0] + ": a match with E - 1", x.decode(), 6 + g[1] > 32 ? OptimalParser.OVERFLOW : OptimalParser.SHORT);
            Check.setBlock(x, 18, 6, 1, 0, g[1]);
            Check.due("E from " + g[0] + ": a match with E", x.decode(), OptimalParser.SHORT);
            Check.due("E from " + g[0] + ": F, E, K, T", Probe.numbers(x), Check.cells(2, g[1], 4, 0));
        }
    }

    /** K + 1 equal cells are the fewest that a match is made of. */
    private static void minMatch() {
        int[][] given = {{LOW, 3}, {-1, 3}, {2, 3}, {3, 3}, {4, 4}, {5, 5}, {6, 6}, {7, 6}, {HIGH, 6}};
        for (int[] g : given) {
            OptimalParser x = new OptimalParser(15, 255, g[0], 0);
            x.repeat(7, g[1] + 1);
            x.encode();
            Check.due("K from " + g[0] + ": a match of K", Check.list(x, OptimalParser.BLOCK), Check.cells(16, 7, 1, 0, 0));
            x.cut(OptimalParser.SOURCE, g[1]);
            x.encode();
            Check.due("K from " + g[0] + ": too few for a match", Check.list(x, OptimalParser.BLOCK),
                    Check.join(Check.cells(16 * g[1]), Check.same(7, g[1])));
            Check.due("K from " + g[0] + ": F, E, K, T", Probe.numbers(x), Check.cells(15, 255, g[1], 0));
        }
    }

    /** T shows in the number of literals that a run of equal cells ends with. */
    private static void tail() {
        int[][] given = {{LOW, 0}, {-1, 0}, {0, 0}, {1, 1}, {2, 2}, {5, 5}, {7, 7}, {8, 8}, {9, 8}, {HIGH, 8}};
        for (int[] g : given) {
            OptimalParser x = new OptimalParser(15, 255, 4, g[0]);
            x.repeat(7, 19);
            x.encode();
            Check.due("T from " + g[0] + ": BLOCK", Check.list(x, OptimalParser.BLOCK),
                    Check.join(Check.cells(30 - g[1], 7, 1, 0, 16 * g[1]), Check.same(7, g[1])));
            Check.due("T from " + g[0] + ": F, E, K, T", Probe.numbers(x), Check.cells(15, 255, 4, g[1]));
        }
    }

    private static final int[] LEAST = {2, 2, 3, 0};
    private static final int[] GREATEST = {15, 255, 6, 8};

    private static void gives(int[] given, int... want) {
        OptimalParser x = new OptimalParser(given[0], given[1], given[2], given[3]);
        Check.due("F, E, K, T of " + java.util.Arrays.toString(given), Probe.numbers(x), want);
    }

    /** Every argument too small, within or too large, in every mixture of the four. */
    private static void outside() {
        int[] within = {7, 90, 4, 3};
        for (int mixture = 0; mixture < 81; mixture++) {
            int[] given = new int[4];
            int[] want = new int[4];
            int left = mixture;
            for (int i = 0; i < 4; i++) {
                int kind = left % 3;
                left /= 3;
                given[i] = kind == 0 ? LEAST[i] - 1 - mixture : kind == 1 ? within[i] : GREATEST[i] + 1 + mixture;
                want[i] = kind == 0 ? LEAST[i] : kind == 1 ? within[i] : GREATEST[i];
            }
            gives(given, want);
        }
        gives(Check.cells(1, 1, 2, -1), LEAST);
        gives(Check.cells(16, 256, 7, 9), GREATEST);
    }

    private static void within() {
        for (int f = 2; f <= 15; f++) {
            gives(Check.cells(f, 100, 5, 4), f, 100, 5, 4);
        }
        for (int e = 2; e <= 255; e++) {
            gives(Check.cells(6, e, 5, 4), 6, e, 5, 4);
        }
        for (int k = 3; k <= 6; k++) {
            gives(Check.cells(6, 100, k, 4), 6, 100, k, 4);
        }
        for (int t = 0; t <= 8; t++) {
            gives(Check.cells(6, 100, 5, t), 6, 100, 5, t);
        }
        gives(LEAST, LEAST);
        gives(GREATEST, GREATEST);
    }

    private static void everyInt() {
        gives(Check.same(LOW, 4), LEAST);
        gives(Check.same(LOW + 1, 4), LEAST);
        gives(Check.same(-1, 4), LEAST);
        gives(Check.same(HIGH, 4), GREATEST);
        gives(Check.same(HIGH - 1, 4), GREATEST);
        gives(Check.cells(LOW, HIGH, LOW, HIGH), 2, 255, 3, 8);
        gives(Check.cells(HIGH, LOW, HIGH, LOW), 15, 2, 6, 0);
        for (int bit = 0; bit < 32; bit++) {
            int v = 1 << bit;
            gives(Check.same(v, 4), clamped(v, 0), clamped(v, 1), clamped(v, 2), clamped(v, 3));
            gives(Check.same(-v, 4), clamped(-v, 0), clamped(-v, 1), clamped(-v, 2), clamped(-v, 3));
        }
    }

    private static int clamped(int v, int which) {
        return Math.min(GREATEST[which], Math.max(LEAST[which], v));
    }

    private static void start() {
        int[][] arguments = {{15, 255, 4, 0}, {2, 2, 3, 8}, {LOW, LOW, LOW, LOW}, {HIGH, HIGH, HIGH, HIGH}, {0, 0, 0, 0}};
        for (int[] a : arguments) {
            // Another object that holds cells must not lend them to a new one.
            Check.full();
            OptimalParser x = new OptimalParser(a[0], a[1], a[2], a[3]);
            Check.lists("at the start", x, Check.NONE, Check.NONE, Check.NONE);
        }
    }

    /** Each method once accepted and once refused; then the numbers are looked for again. */
    private static void numbersStay() {
        int[][] numbers = {{2, 2, 3, 0}, {15, 255, 6, 8}, {5, 7, 4, 2}};
        for (int[] n : numbers) {
            OptimalParser x = new OptimalParser(n[0], n[1], n[2], n[3]);
            new OptimalParser(9, 9, 5, 5).encode();
            for (int round = 0; round < 2; round++) {
                useEveryMethod(x);
                Check.due("F, E, K, T after use", Probe.numbers(x), n);
                Check.setSource(x, Check.counting(100, 32));
                x.encode();
                Check.due("BLOCK after use", Check.list(x, OptimalParser.BLOCK),
                        Check.join(Check.cells(16 * n[0]), Probe.extension(n[0], n[1], 32), Check.counting(100, 32)));
            }
        }
    }

    private static void useEveryMethod(OptimalParser x) {
        for (int a : Check.cells(LOW, -1, 0, 1, 2, 3, 15, 32, 255, HIGH)) {
            for (int b : Check.cells(LOW, -1, 0, 1, 2, 4, HIGH)) {
                x.put(a);
                x.repeat(a, b);
                x.echo(a, b);
                x.encode();
                x.surplus();
                x.decode();
                x.feed(b);
                x.poke(b, a);
                x.decode();
                x.length(a);
                x.cellAt(a, b);
                x.cut(a, b);
                x.adopt();
            }
        }
        // Every reason that decode can have to refuse a block.
        int[][] blocks = {{}, {16}, {255, 255}, {32, 255}, {80, 255}, {16, 1, 1, 0, 0}, {17, 1}, {16, 1, 2, 0, 0}, {15}, {33}, {0, 0, 0},
            Check.same(0, 64), Check.join(Check.cells(16, 1), many(Check.cells(1, 0, 0), 12))};
        for (int[] block : blocks) {
            Check.setBlock(x, block);
            x.decode();
            x.surplus();
        }
    }

    private static int[] many(int[] cells, int n) {
        int[] all = Check.NONE;
        for (int i = 0; i < n; i++) {
            all = Check.join(all, cells);
        }
        return all;
    }
}
