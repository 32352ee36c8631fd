import java.util.Arrays;

/** What the tests share: counting wrong answers, filling and reading the lists of an object. */
final class Check {
    private static int wrong = 0;
    private static int seen = 0;

    private Check() {
    }

    static void due(String call, int got, int want) {
        seen++;
        if (got != want) {
            wrong++;
            System.out.println(call + " answered " + got + ", due is " + want);
        }
    }

    static void due(String what, int[] got, int[] want) {
        seen++;
        if (!Arrays.equals(got, want)) {
            wrong++;
            System.out.println(what + " is " + Arrays.toString(got) + ", due is " + Arrays.toString(want));
        }
    }

    /** The lists by the names of the face: SOURCE, BLOCK, OUTPUT. */
    static void lists(String when, OptimalParser x, int[] source, int[] block, int[] output) {
        due(when + ": SOURCE", list(x, OptimalParser.SOURCE), source);
        due(when + ": BLOCK", list(x, OptimalParser.BLOCK), block);
        due(when + ": OUTPUT", list(x, OptimalParser.OUTPUT), output);
    }

    static void end(String test) {
        if (seen == 0) {
            wrong++;
            System.out.println(test + " looked at nothing");
        }
        if (wrong != 0) {
            System.out.println(test + ": " + wrong + " of " + seen + " answers are not as due");
            System.exit(1);
        }
        System.out.println(test + ": all " + seen + " answers are as due");
    }

    static int[] list(OptimalParser x, int which) {
        int[] cells = new int[Math.max(0, x.length(which))];
        for (int i = 0; i < cells.length; i++) {
            cells[i] = x.cellAt(which, i);
        }
        return cells;
    }

    static int[] cells(int... cells) {
        return cells;
    }

    static int[] same(int cell, int n) {
        int[] cells = new int[n];
        Arrays.fill(cells, cell);
        return cells;
    }

    static int[] counting(int first, int n) {
        int[] cells = new int[n];
        for (int i = 0; i < n; i++) {
            cells[i] = first + i;
        }
        return cells;
    }

    static int[] join(int[]... parts) {
        int[] all = new int[0];
        for (int[] part : parts) {
            int before = all.length;
            all = Arrays.copyOf(all, before + part.length);
            System.arraycopy(part, 0, all, before, part.length);
        }
        return all;
    }

    static void setSource(OptimalParser x, int... cells) {
        x.cut(OptimalParser.SOURCE, 0);
        for (int cell : cells) {
            x.put(cell);
        }
    }

    static void setBlock(OptimalParser x, int... cells) {
        x.cut(OptimalParser.BLOCK, 0);
        for (int cell : cells) {
            x.feed(cell);
        }
    }

    /** An object whose three lists all hold something, each something else. */
    static OptimalParser busy() {
        OptimalParser x = new OptimalParser(15, 255, 4, 0);
        setBlock(x, 48, 1, 2, 3);
        x.decode();
        setBlock(x, 32, 8, 9);
        setSource(x, 5, 6, 7, 8);
        return x;
    }

    static final int[] BUSY_SOURCE = {5, 6, 7, 8};
    static final int[] BUSY_BLOCK = {32, 8, 9};
    static final int[] BUSY_OUTPUT = {1, 2, 3};
}
