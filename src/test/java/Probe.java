/** Finds F, E, K and T of an object by what its decode refuses. BLOCK and OUTPUT are lost by it. */
final class Probe {
    private Probe() {
    }

    static int[] numbers(OptimalParser x) {
        int f = greatestField(x);
        int e = greatestExtension(x, f);
        int k = leastMatch(x, f, e);
        return Check.cells(f, e, k, leastTail(x, f, e));
    }

    private static int decode(OptimalParser x, int... block) {
        Check.setBlock(x, block);
        return x.decode();
    }

    private static int greatestField(OptimalParser x) {
        int f = 0;
        while (f < 15 && decode(x, 16 * (f + 1)) != OptimalParser.BAD_FIELD) {
            f++;
        }
        return f;
    }

    private static int greatestExtension(OptimalParser x, int f) {
        int e = 0;
        while (e < 255 && decode(x, 16 * f, e + 1) != OptimalParser.BAD_EXTENSION) {
            e++;
        }
        return e;
    }

    /** Eight literals at the end are enough for every tail. */
    private static int leastMatch(OptimalParser x, int f, int e) {
        return decode(x, Check.join(Check.cells(16, 7, 1, 0), Probe.literals(f, e, 8))) - 9;
    }

    private static int leastTail(OptimalParser x, int f, int e) {
        int t = 0;
        while (t < 20 && decode(x, Check.join(Check.cells(16, 7, 1, 0), Probe.literals(f, e, t))) < 0) {
            t++;
        }
        return t;
    }

    /** A final sequence of n literals. */
    static int[] literals(int f, int e, int n) {
        return Check.join(Check.cells(16 * field(f, n)), extension(f, e, n), Check.counting(40, n));
    }

    static int field(int f, int x) {
        return x < f ? x : f;
    }

    static int[] extension(int f, int e, int x) {
        if (x < f) {
            return Check.NONE;
        }
        return Check.join(Check.same(e, (x - f) / e), Check.cells((x - f) % e));
    }
}
