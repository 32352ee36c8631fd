import java.util.Arrays;
import java.util.function.IntSupplier;

/** What the tests share: counting wrong answers, filling and reading the lists of an object. */
final class Check {
    static final int LOW = Integer.MIN_VALUE;
    static final int HIGH = Integer.MAX_VALUE;

    private static int wrong = 0;
    private static int seen = 0;
    private static int sentences = 0;

    private Check() {
    }

    /** A sentence of the document, word for word, and the test that is its own. */
    static void sentence(String sentence, Runnable test) {
        int wrongBefore = wrong;
        int seenBefore = seen;
        sentences++;
        try {
            test.run();
        } catch (RuntimeException thrown) {
            wrong++;
            System.out.println("a call has thrown " + thrown);
        }
        if (seen == seenBefore) {
            wrong++;
            System.out.println("looked at nothing");
        }
        if (wrong != wrongBefore) {
            System.out.println("BROKEN: " + sentence);
        }
    }

    static void due(String call, int got, int want) {
        seen++;
        if (got != want) {
            wrong++;
            System.out.println(call + " answered " + got + ", due is " + want);
        }
    }

    static void due(String what, int[] got, int[] want) {
        seen++;
        if (!Arrays.equals(got, want)) {
            wrong++;
            System.out.println(what + " is " + Arrays.toString(got) + ", due is " + Arrays.toString(want));
        }
    }

    /** The lists by the names of the face: SOURCE, BLOCK, OUTPUT. */
    static void lists(String when, OptimalParser x, int[] source, int[] block, int[] output) {
        due(when + ": SOURCE", list(x, OptimalParser.SOURCE), source);
        due(when + ": BLOCK", list(x, OptimalParser.BLOCK), block);
        due(when + ": OUTPUT", list(x, OptimalParser.OUTPUT), output);
    }

    /** The answer is due, and none of the three lists is changed by the call. */
    static void stays(String call, OptimalParser x, int want, IntSupplier made) {
        int[] source = list(x, OptimalParser.SOURCE);
        int[] block = list(x, OptimalParser.BLOCK);
        int[] output = list(x, OptimalParser.OUTPUT);
        due(call, made.getAsInt(), want);
        lists("after " + call, x, source, block, output);
    }

    static void end(String test) {
        if (seen == 0) {
            wrong++;
            System.out.println(test + " looked at nothing");
        }
        if (wrong != 0) {
            System.out.println(test + ": " + wrong + " of " + seen + " answers are not as due");
            System.exit(1);
        }
        System.out.println(test + ": " + sentences + " sentences, all " + seen + " answers are as due");
    }

    static int[] list(OptimalParser x, int which) {
        int[] cells = new int[Math.max(0, x.length(which))];
        for (int i = 0; i < cells.length; i++) {
            cells[i] = x.cellAt(which, i);
        }
        return cells;
    }

    static int[] cells(int... cells) {
        return cells;
    }

    static int[] same(int cell, int n) {
        int[] cells = new int[n];
        Arrays.fill(cells, cell);
        return cells;
    }

    static int[] counting(int first, int n) {
        int[] cells = new int[n];
        for (int i = 0; i < n; i++) {
            cells[i] = first + i;
        }
        return cells;
    }

    static int[] join(int[]... parts) {
        int[] all = new int[0];
        for (int[] part : parts) {
            int before = all.length;
            all = Arrays.copyOf(all, before + part.length);
            System.arraycopy(part, 0, all, before, part.length);
        }
        return all;
    }

    static int[] first(int n, int[] cells) {
        return Arrays.copyOf(cells, n);
    }

    static OptimalParser usual() {
        return new OptimalParser(15, 255, 4, 0);
    }

    static void setSource(OptimalParser x, int... cells) {
        x.cut(OptimalParser.SOURCE, 0);
        for (int cell : cells) {
            x.put(cell);
        }
    }

    static void setBlock(OptimalParser x, int... cells) {
        x.cut(OptimalParser.BLOCK, 0);
        for (int cell : cells) {
            x.feed(cell);
        }
    }

    /** An object whose three lists all hold something, each something else. */
    static OptimalParser busy() {
        OptimalParser x = usual();
        setBlock(x, 48, 1, 2, 3);
        x.decode();
        setBlock(x, 32, 8, 9);
        setSource(x, 5, 6, 7, 8);
        return x;
    }

    static final int[] BUSY_SOURCE = {5, 6, 7, 8};
    static final int[] BUSY_BLOCK = {32, 8, 9};
    static final int[] BUSY_OUTPUT = {1, 2, 3};

    /** An object whose three lists are all full, each of other cells; its BLOCK is refused. */
    static OptimalParser full() {
        OptimalParser x = usual();
        setBlock(x, join(cells(240, 17), FULL_OUTPUT));
        x.decode();
        setBlock(x, FULL_BLOCK);
        setSource(x, FULL_SOURCE);
        return x;
    }

    static final int[] FULL_SOURCE = counting(100, 32);
    static final int[] FULL_BLOCK = counting(10, 64);
    static final int[] FULL_OUTPUT = counting(200, 32);

    static final int[] NONE = {};
}
