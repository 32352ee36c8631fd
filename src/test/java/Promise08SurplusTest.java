import java.util.Arrays;

/** Promise 8: surplus compares BLOCK with the shortest block, and changes nothing. */
public final class Promise08SurplusTest {
    private static final int DIFFERENT = OptimalParser.DIFFERENT;

    public static void main(String[] args) {
        Check.sentence("If a call of `decode` would now answer less than 0,", Promise08SurplusTest::refused);
        Check.sentence("or would make an OUTPUT that differs from SOURCE in length", Promise08SurplusTest::otherLength);
        Check.sentence("or in any cell: answers `DIFFERENT`.", Promise08SurplusTest::otherCell);
        Check.sentence("Otherwise answers the length of BLOCK minus the length that `encode` would now answer.",
                Promise08SurplusTest::difference);
        Check.sentence("In the second case the answer is 0 or more; right after `encode` it is 0.", Promise08SurplusTest::notBelowZero);
        Check.sentence("With an empty BLOCK the answer is `DIFFERENT`, since `decode` would answer `SHORT`.",
                Promise08SurplusTest::emptyBlock);
        Check.sentence("The cells now in OUTPUT have no influence.", Promise08SurplusTest::output);
        Check.sentence("Nothing changes: SOURCE, BLOCK and OUTPUT all stay.", Promise08SurplusTest::nothingChanges);
        Check.end("Promise08SurplusTest");
    }

    private static void surplus(OptimalParser x, int want, int... block) {
        Check.setBlock(x, block);
        Check.stays("surplus() of " + Arrays.toString(block), x, want, x::surplus);
    }

    /** Each refusal, in a block that would stand for SOURCE if the cell in question were passed over. */
    private static void refused() {
        OptimalParser x = Check.usual();
        Check.setSource(x, 1, 2, 3);
        surplus(x, DIFFERENT, 48, 1, 2);
        surplus(x, DIFFERENT, 49, 1, 2, 3);
        surplus(x, DIFFERENT, 48, 1, 2, 3, 0);
        surplus(x, DIFFERENT, 48, 1, 2, 3, 0, 0);
        surplus(x, 0, 48, 1, 2, 3);
        OptimalParser small = new OptimalParser(2, 2, 3, 2);
        small.repeat(9, 6);
        surplus(small, DIFFERENT, 96, 9, 9, 9, 9, 9, 9);
        surplus(small, DIFFERENT, 32, 4, 9, 9, 9, 9, 9, 9);
        surplus(small, DIFFERENT, 17, 9, 1, 0, 16, 9);
        surplus(small, DIFFERENT, 16, 9, 2, 0, 32, 0, 9, 9);
        surplus(small, 0, 16, 9, 1, 0, 32, 0, 9, 9);
        OptimalParser most = Check.usual();
        most.repeat(7, 32);
        surplus(most, DIFFERENT, 31, 7, 1, 0, 13, 0);
        surplus(most, DIFFERENT, 31, 7, 1, 0, 12);
        surplus(most, DIFFERENT, 31, 7, 1, 0, 12, 16, 7);
        surplus(most, 0, 31, 7, 1, 0, 12, 0);
    }

    private static void otherLength() {
        for (int source = 0; source <= 32; source++) {
            OptimalParser x = Check.usual();
            Check.setSource(x, Check.counting(40, source));
            for (int block = 0; block <= 32; block++) {
                surplus(x, source == block ? 0 : DIFFERENT, Probe.literals(15, 255, block));
            }
        }
        OptimalParser equal = Check.usual();
        equal.repeat(97, 10);
        surplus(equal, DIFFERENT, 20, 97, 1, 0, 0);
        surplus(equal, 0, 21, 97, 1, 0, 0);
        surplus(equal, DIFFERENT, 22, 97, 1, 0, 0);
        equal.cut(OptimalParser.SOURCE, 0);
        surplus(equal, DIFFERENT, 21, 97, 1, 0, 0);
    }

    private static void otherCell() {
        OptimalParser x = Check.usual();
        Check.setSource(x, Check.counting(40, 32));
        Check.setBlock(x, Probe.literals(15, 255, 32));
        for (int i = 0; i < 32; i++) {
            for (int v : Check.cells(0, 39 + i, 41 + i, 40 + i + 128, 255)) {
                x.poke(2 + i, v);
                Check.stays("surplus() with cell " + i + " made " + v, x, DIFFERENT, x::surplus);
            }
            x.poke(2 + i, 40 + i);
        }
        Check.stays("surplus() with all cells right again", x, 0, x::surplus);
    }

    private static void difference() {
        OptimalParser x = Check.usual();
        surplus(x, 0, 0);
        x.repeat(97, 10);
        surplus(x, 0, 21, 97, 1, 0, 0);
        surplus(x, 1, 36, 97, 97, 2, 0, 0);
        surplus(x, 1, 20, 97, 1, 0, 16, 97);
        surplus(x, 3, 16, 97, 1, 0, 1, 1, 0, 0);
        surplus(x, 6, Check.join(Check.cells(160), Check.same(97, 10)));
        // SOURCE may have changed since; what encode would answer now counts.
        OptimalParser most = new OptimalParser(2, 2, 3, 0);
        most.repeat(9, 32);
        surplus(most, 30, Check.join(Check.cells(32), Check.same(2, 15), Check.cells(0), Check.same(9, 32)));
        most.cut(OptimalParser.SOURCE, 2);
        surplus(most, 0, 32, 0, 9, 9);
        // A tail that the shortest block must leave is no surplus.
        OptimalParser tail = new OptimalParser(15, 255, 4, 5);
        tail.repeat(97, 10);
        surplus(tail, 0, 16, 97, 1, 0, 80, 97, 97, 97, 97, 97);
        surplus(tail, 1, Check.join(Check.cells(160), Check.same(97, 10)));
    }

    private static void notBelowZero() {
        Dice dice = new Dice(88);
        for (int i = 0; i < 1500; i++) {
            int[] n = {2 + dice.below(14), 2 + dice.below(6), 3 + dice.below(4), dice.below(9)};
            OptimalParser x = new OptimalParser(n[0], n[1], n[2], n[3]);
            int[] source = dice.source(32);
            Check.setSource(x, source);
            int shortest = x.encode();
            Check.stays("surplus() right after encode()", x, 0, x::surplus);
            int[] literals = Check.join(Check.cells(16 * Probe.field(n[0], source.length)),
                    Probe.extension(n[0], n[1], source.length), source);
            surplus(x, literals.length - shortest, literals);
            Check.due("surplus() is not below 0", Math.min(0, x.surplus()), 0);
        }
    }

    private static void emptyBlock() {
        OptimalParser x = Check.usual();
        Check.stays("surplus() at the start", x, DIFFERENT, x::surplus);
        x.put(1);
        Check.stays("surplus() with a SOURCE", x, DIFFERENT, x::surplus);
        OptimalParser y = Check.full();
        y.adopt();
        y.cut(OptimalParser.BLOCK, 0);
        Check.stays("surplus() with OUTPUT equal to SOURCE", y, DIFFERENT, y::surplus);
        y.encode();
        y.cut(OptimalParser.BLOCK, 0);
        Check.stays("surplus() with the chosen BLOCK cut off", y, DIFFERENT, y::surplus);
    }

    private static void output() {
        for (int[] output : new int[][] {{0}, {16, 8}, {32, 8, 9}, {48, 8, 9, 9}, {32, 9, 8}}) {
            OptimalParser x = Check.usual();
            Check.setBlock(x, output);
            x.decode();
            Check.setSource(x, 8, 9);
            surplus(x, 0, 32, 8, 9);
            surplus(x, DIFFERENT, 32, 8, 8);
            surplus(x, DIFFERENT, 16, 8);
            surplus(x, DIFFERENT, 48, 8, 9);
        }
    }

    private static void nothingChanges() {
        OptimalParser x = Check.busy();
        x.surplus();
        Check.lists("after DIFFERENT", x, Check.BUSY_SOURCE, Check.BUSY_BLOCK, Check.BUSY_OUTPUT);
        Check.setSource(x, 8, 9);
        x.surplus();
        Check.lists("after 0", x, Check.cells(8, 9), Check.BUSY_BLOCK, Check.BUSY_OUTPUT);
        Check.setSource(x, Check.same(4, 9));
        Check.setBlock(x, Check.join(Check.cells(144), Check.same(4, 9)));
        Check.due("surplus()", x.surplus(), 5);
        Check.lists("after 5", x, Check.same(4, 9), Check.join(Check.cells(144), Check.same(4, 9)), Check.BUSY_OUTPUT);
        Check.due("surplus() again", x.surplus(), 5);
        Check.due("decode() behind it", x.decode(), 9);
        OptimalParser full = Check.full();
        full.surplus();
        Check.lists("after a full BLOCK", full, Check.FULL_SOURCE, Check.FULL_BLOCK, Check.FULL_OUTPUT);
    }
}
