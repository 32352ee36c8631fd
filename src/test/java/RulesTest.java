import java.util.function.IntBinaryOperator;

/** What the document says under "What it is": the state, the constants, and the rules that hold for every method. */
public final class RulesTest {
    public static void main(String[] args) {
        Check.sentence("SOURCE, at most `CAPACITY` cells;", RulesTest::sourceAtMost);
        Check.sentence("BLOCK, at most `BLOCK_CAPACITY` cells;", RulesTest::blockAtMost);
        Check.sentence("OUTPUT, at most `CAPACITY` cells;", RulesTest::outputAtMost);
        Check.sentence("The state of an object is three lists of cells, each cell 0..255, positions counted from 0:", RulesTest::eachCell);
        Check.sentence("There is no other state.", RulesTest::noOtherState);
        Check.sentence("Public constants:", RulesTest::constants);
        Check.sentence("A call changes only what its promise says it changes.", RulesTest::changesOnly);
        Check.sentence("Conditions are looked at in the order written; the first that holds decides the answer.", RulesTest::order);
        Check.sentence("A refused call changes nothing.", RulesTest::refusedCalls);
        Check.sentence("Where an argument `v` gives a cell, the cell is the low eight bits of `v`, that is `v & 255`, for every int `v`.",
                RulesTest::everyInt);
        Check.sentence("So -1 gives 255, 256 gives 0, and `Integer.MIN_VALUE` gives 0.", RulesTest::namedInts);
        Check.end("RulesTest");
    }

    private static void sourceAtMost() {
        OptimalParser x = Check.usual();
        for (int i = 0; i < 100; i++) {
            x.put(i);
            x.repeat(i, 1 + i % 3);
            x.echo(1, 1 + i % 2);
            int length = x.length(OptimalParser.SOURCE);
            Check.due("length of SOURCE above 32", length > 32 ? length : 0, 0);
        }
        Check.due("length of SOURCE in the end", x.length(OptimalParser.SOURCE), 32);
        Check.due("cellAt(SOURCE, 32)", x.cellAt(OptimalParser.SOURCE, 32), OptimalParser.BAD_ARGUMENT);
    }

    private static void blockAtMost() {
        OptimalParser x = new OptimalParser(2, 2, 3, 0);
        Check.setSource(x, Check.counting(0, 32));
        x.encode();
        for (int i = 0; i < 100; i++) {
            x.feed(i);
            int length = x.length(OptimalParser.BLOCK);
            Check.due("length of BLOCK above 64", length > 64 ? length : 0, 0);
        }
        Check.due("length of BLOCK in the end", x.length(OptimalParser.BLOCK), 64);
        Check.due("cellAt(BLOCK, 64)", x.cellAt(OptimalParser.BLOCK, 64), OptimalParser.BAD_ARGUMENT);
    }

    private static void outputAtMost() {
        OptimalParser x = Check.usual();
        for (int extension = 0; extension <= 255; extension++) {
            Check.setBlock(x, 31, 7, 1, 0, extension, 0);
            x.decode();
            int length = x.length(OptimalParser.OUTPUT);
            Check.due("length of OUTPUT above 32", length > 32 ? length : 0, 0);
        }
        Check.due("length of OUTPUT in the end", x.length(OptimalParser.OUTPUT), 32);
        Check.due("cellAt(OUTPUT, 32)", x.cellAt(OptimalParser.OUTPUT, 32), OptimalParser.BAD_ARGUMENT);
    }

    private static void eachCell() {
        for (int v : Check.cells(-129, -128, -1, 127, 128, 254, 255, 256, 1000)) {
            OptimalParser x = Check.usual();
            x.put(v);
            x.encode();
            x.decode();
            for (int which = 0; which <= 2; which++) {
                int last = x.cellAt(which, x.length(which) - 1);
                Check.due("the cell of " + v + " in list " + which, last, v & 255);
            }
            Check.due("position 0 of SOURCE", x.cellAt(OptimalParser.SOURCE, 0), v & 255);
            Check.due("position 0 of BLOCK", x.cellAt(OptimalParser.BLOCK, 0), 16);
            Check.due("position 0 of OUTPUT", x.cellAt(OptimalParser.OUTPUT, 0), v & 255);
        }
    }

    /** Objects that came to the same lists on other ways, and beside other objects, answer alike ever after. */
    private static void noOtherState() {
        OptimalParser straight = Check.busy();
        OptimalParser around = Check.full();
        around.encode();
        around.surplus();
        around.decode();
        around.poke(0, 255);
        around.decode();
        Check.setBlock(around, 48, 1, 2, 3);
        around.decode();
        around.repeat(7, 9);
        around.encode();
        around.surplus();
        Check.setBlock(around, Check.BUSY_BLOCK);
        Check.setSource(around, Check.BUSY_SOURCE);
        OptimalParser beside = Check.full();
        Dice dice = new Dice(500);
        for (int step = 0; step < 3000; step++) {
            int call = dice.below(METHODS);
            int a = argument(dice);
            int b = argument(dice);
            Check.due(name(call, a, b), call(around, call, a, b), call(straight, call, a, b));
            Check.lists("after " + name(call, a, b), around, Check.list(straight, OptimalParser.SOURCE),
                    Check.list(straight, OptimalParser.BLOCK), Check.list(straight, OptimalParser.OUTPUT));
            int other = dice.below(METHODS);
            call(beside, other, b, a);
        }
    }

    private static final int METHODS = 12;

    private static int argument(Dice dice) {
        int[] odd = {Check.LOW, -1, 31, 32, 33, 63, 64, 255, 256, Check.HIGH};
        return dice.below(8) == 0 ? odd[dice.below(odd.length)] : dice.below(6);
    }

    private static String name(int call, int a, int b) {
        String[] names = {"put", "repeat", "echo", "cut", "adopt", "encode", "surplus", "feed", "poke", "decode", "length", "cellAt"};
        return names[call] + "(" + a + ", " + b + ")";
    }

    private static int call(OptimalParser x, int call, int a, int b) {
        switch (call) {
            case 0: return x.put(a);
            case 1: return x.repeat(a, b);
            case 2: return x.echo(a, b);
            case 3: return x.cut(a, b);
            case 4: return x.adopt();
            case 5: return x.encode();
            case 6: return x.surplus();
            case 7: return x.feed(a);
            case 8: return x.poke(a, b);
            case 9: return x.decode();
            case 10: return x.length(a);
            default: return x.cellAt(a, b);
        }
    }

    private static void constants() {
        Check.due("CAPACITY", OptimalParser.CAPACITY, 32);
        Check.due("BLOCK_CAPACITY", OptimalParser.BLOCK_CAPACITY, 64);
        Check.due("SOURCE", OptimalParser.SOURCE, 0);
        Check.due("BLOCK", OptimalParser.BLOCK, 1);
        Check.due("OUTPUT", OptimalParser.OUTPUT, 2);
        Check.due("FULL", OptimalParser.FULL, -1);
        Check.due("BAD_ARGUMENT", OptimalParser.BAD_ARGUMENT, -2);
        Check.due("SHORT", OptimalParser.SHORT, -3);
        Check.due("BAD_FIELD", OptimalParser.BAD_FIELD, -4);
        Check.due("BAD_EXTENSION", OptimalParser.BAD_EXTENSION, -5);
        Check.due("OVERFLOW", OptimalParser.OVERFLOW, -6);
        Check.due("BAD_END", OptimalParser.BAD_END, -7);
        Check.due("BAD_OFFSET", OptimalParser.BAD_OFFSET, -8);
        Check.due("DIFFERENT", OptimalParser.DIFFERENT, -128);
    }

    /** For each method the lists that its promise doesn't name as changed. */
    private static void changesOnly() {
        boolean[][] mayChange = {
            {true, false, false}, {true, false, false}, {true, false, false}, {true, true, false}, {true, false, false},
            {false, true, false}, {false, false, false}, {false, true, false}, {false, true, false}, {false, false, true},
            {false, false, false}, {false, false, false}};
        for (int call = 0; call < METHODS; call++) {
            for (int a = -1; a <= 5; a++) {
                for (int b = -1; b <= 5; b++) {
                    for (OptimalParser x : new OptimalParser[] {Check.usual(), Check.busy(), Check.full(), longBlock()}) {
                        int[][] before = {Check.list(x, 0), Check.list(x, 1), Check.list(x, 2)};
                        call(x, call, a, b);
                        for (int which = 0; which <= 2; which++) {
                            // A cut changes the list it names and not the other one.
                            if (!mayChange[call][which] || call == 3 && which != a) {
                                Check.due("list " + which + " after " + name(call, a, b), Check.list(x, which), before[which]);
                            }
                        }
                    }
                }
            }
        }
    }

    /** A BLOCK that stands for SOURCE and is longer than need be, so that surplus, too, isn't refused. */
    private static OptimalParser longBlock() {
        OptimalParser x = Check.busy();
        Check.setSource(x, Check.same(9, 10));
        Check.setBlock(x, Check.join(Check.cells(160), Check.same(9, 10)));
        return x;
    }

    /** Calls for which two conditions with unequal answers hold; within decode, promise 11 has its own. */
    private static void order() {
        OptimalParser full = Check.full();
        for (int n : Check.cells(0, -1, Check.LOW)) {
            Check.stays("repeat(1, " + n + ") on a full SOURCE", full, OptimalParser.BAD_ARGUMENT, () -> full.repeat(1, n));
            Check.stays("echo(1, " + n + ") on a full SOURCE", full, OptimalParser.BAD_ARGUMENT, () -> full.echo(1, n));
            Check.stays("echo(32, " + n + ") on a full SOURCE", full, OptimalParser.BAD_ARGUMENT, () -> full.echo(32, n));
        }
        for (int distance : Check.cells(0, -1, 33, Check.LOW, Check.HIGH)) {
            Check.stays("echo(" + distance + ", 1) on a full SOURCE", full, OptimalParser.BAD_ARGUMENT, () -> full.echo(distance, 1));
            Check.stays("echo(" + distance + ", MAX_VALUE) on a full SOURCE", full, OptimalParser.BAD_ARGUMENT,
                    () -> full.echo(distance, Check.HIGH));
        }
        OptimalParser empty = Check.usual();
        Check.stays("echo(1, 33) on an empty SOURCE", empty, OptimalParser.BAD_ARGUMENT, () -> empty.echo(1, 33));
        // DIFFERENT goes before every number of cells.
        OptimalParser longer = Check.usual();
        longer.repeat(9, 10);
        Check.setBlock(longer, Check.join(Check.cells(160), Check.same(8, 10)));
        Check.stays("surplus() of other cells", longer, OptimalParser.DIFFERENT, longer::surplus);
        // Two reasons in one block: the earlier step answers.
        Check.setBlock(longer, 31, 7, 9, 0);
        Check.stays("decode() with two reasons", longer, OptimalParser.BAD_OFFSET, longer::decode);
    }

    /** Each method that can be refused, with each of its reasons, on lists that are empty, in use and full. */
    private static void refusedCalls() {
        for (OptimalParser x : new OptimalParser[] {Check.usual(), Check.busy(), Check.full()}) {
            int length = x.length(OptimalParser.SOURCE);
            refused(x, OptimalParser.BAD_ARGUMENT, x::repeat, 1, 0);
            refused(x, OptimalParser.FULL, x::repeat, 1, 33 - length);
            refused(x, OptimalParser.BAD_ARGUMENT, x::echo, 0, 1);
            refused(x, OptimalParser.BAD_ARGUMENT, x::echo, length + 1, 1);
            refused(x, OptimalParser.BAD_ARGUMENT, x::echo, length, 0);
            if (length > 0) {
                refused(x, OptimalParser.FULL, x::echo, length, 33 - length);
            }
            refused(x, OptimalParser.BAD_ARGUMENT, x::cut, OptimalParser.OUTPUT, 0);
            refused(x, OptimalParser.BAD_ARGUMENT, x::cut, OptimalParser.SOURCE, -1);
            refused(x, OptimalParser.BAD_ARGUMENT, x::cut, OptimalParser.SOURCE, length + 1);
            refused(x, OptimalParser.BAD_ARGUMENT, x::cut, OptimalParser.BLOCK, -1);
            refused(x, OptimalParser.BAD_ARGUMENT, x::cut, OptimalParser.BLOCK, x.length(OptimalParser.BLOCK) + 1);
            refused(x, OptimalParser.BAD_ARGUMENT, x::poke, -1, 1);
            refused(x, OptimalParser.BAD_ARGUMENT, x::poke, x.length(OptimalParser.BLOCK), 1);
            refused(x, OptimalParser.BAD_ARGUMENT, x::cellAt, 3, 0);
            refused(x, OptimalParser.BAD_ARGUMENT, x::cellAt, OptimalParser.SOURCE, -1);
            refused(x, OptimalParser.BAD_ARGUMENT, x::cellAt, OptimalParser.SOURCE, length);
            Check.stays("length(3)", x, OptimalParser.BAD_ARGUMENT, () -> x.length(3));
        }
        OptimalParser full = Check.full();
        Check.stays("put(1)", full, OptimalParser.FULL, () -> full.put(1));
        Check.stays("feed(1)", full, OptimalParser.FULL, () -> full.feed(1));
        int[][] blocks = {{OptimalParser.SHORT}, {OptimalParser.SHORT, 32, 1}, {OptimalParser.BAD_FIELD, 19, 6, 1, 0, 0},
            {OptimalParser.BAD_EXTENSION, 18, 6, 1, 0, 3}, {OptimalParser.OVERFLOW, 18, 6, 1, 0, 2, 2, 2, 2, 2, 2, 2, 2, 2, 2, 2, 2, 2, 2, 0},
            {OptimalParser.BAD_END, 17, 6}, {OptimalParser.BAD_OFFSET, 16, 6, 2, 0, 0}};
        for (int[] row : blocks) {
            OptimalParser x = new OptimalParser(2, 2, 3, 0);
            Check.setBlock(x, 16, 33);
            x.decode();
            x.put(44);
            Check.setBlock(x, java.util.Arrays.copyOfRange(row, 1, row.length));
            Check.stays("decode()", x, row[0], x::decode);
            Check.stays("surplus()", x, OptimalParser.DIFFERENT, x::surplus);
        }
    }

    private static void refused(OptimalParser x, int want, IntBinaryOperator method, int a, int b) {
        Check.stays("the call with " + a + ", " + b, x, want, () -> method.applyAsInt(a, b));
    }

    private static void gives(int v, int cell) {
        OptimalParser x = Check.usual();
        x.put(v);
        x.repeat(v, 2);
        Check.due("SOURCE from " + v, Check.list(x, OptimalParser.SOURCE), Check.same(cell, 3));
        x.feed(v);
        x.feed(7);
        x.poke(1, v);
        Check.due("BLOCK from " + v, Check.list(x, OptimalParser.BLOCK), Check.same(cell, 2));
        Check.due("poke over " + v, x.poke(0, 0), cell);
    }

    private static void everyInt() {
        for (int v = -1100; v <= 1100; v++) {
            gives(v, Math.floorMod(v, 256));
        }
        for (int bit = 0; bit < 32; bit++) {
            for (int beside = -2; beside <= 2; beside++) {
                int v = (1 << bit) + beside;
                gives(v, Math.floorMod(v, 256));
                gives(~v, Math.floorMod(~v, 256));
            }
        }
        Dice dice = new Dice(255);
        for (int i = 0; i < 5000; i++) {
            int v = (dice.below(65536) << 16) + dice.below(65536);
            gives(v, Math.floorMod(v, 256));
        }
    }

    private static void namedInts() {
        gives(-1, 255);
        gives(256, 0);
        gives(Integer.MIN_VALUE, 0);
        gives(Integer.MAX_VALUE, 255);
    }
}
