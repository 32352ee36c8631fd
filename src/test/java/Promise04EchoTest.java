/** Promise 4: echo copies from the end of SOURCE, also the cells it appends itself. */
public final class Promise04EchoTest {
    public static void main(String[] args) {
        ordinary();
        wrongArguments();
        full();
        Check.end("Promise04EchoTest");
    }

    private static void ordinary() {
        OptimalParser x = Check.busy();
        Check.due("echo(1, 1)", x.echo(1, 1), 5);
        Check.due("echo(5, 2)", x.echo(5, 2), 7);
        Check.lists("after echo", x, Check.cells(5, 6, 7, 8, 8, 5, 6), Check.BUSY_BLOCK, Check.BUSY_OUTPUT);
        Check.due("echo(3, 7)", x.echo(3, 7), 14);
        Check.lists("after an echo of its own cells", x,
                Check.cells(5, 6, 7, 8, 8, 5, 6, 8, 5, 6, 8, 5, 6, 8), Check.BUSY_BLOCK, Check.BUSY_OUTPUT);
        Check.due("echo(14, 14)", x.echo(14, 14), 28);
        Check.due("the first cell of it", x.cellAt(OptimalParser.SOURCE, 14), 5);
        Check.due("the last cell of it", x.cellAt(OptimalParser.SOURCE, 27), 8);
        Check.due("echo(28, 4) that fills SOURCE", x.echo(28, 4), 32);
        Check.due("the last cell of that", x.cellAt(OptimalParser.SOURCE, 31), 8);
        OptimalParser y = new OptimalParser(15, 255, 4, 0);
        y.put(200);
        Check.due("echo(1, 31)", y.echo(1, 31), 32);
        Check.lists("after echo(1, 31)", y, Check.same(200, 32), new int[0], new int[0]);
    }

    private static void wrongArguments() {
        OptimalParser empty = new OptimalParser(15, 255, 4, 0);
        for (int distance : Check.cells(Integer.MIN_VALUE, -1, 0, 1, 2, 32, Integer.MAX_VALUE)) {
            Check.due("echo(" + distance + ", 1) on an empty SOURCE", empty.echo(distance, 1), OptimalParser.BAD_ARGUMENT);
            Check.due("echo(" + distance + ", 33) on an empty SOURCE", empty.echo(distance, 33), OptimalParser.BAD_ARGUMENT);
        }
        OptimalParser x = Check.busy();
        for (int distance : Check.cells(Integer.MIN_VALUE, -1, 0, 5, 6, Integer.MAX_VALUE)) {
            Check.due("echo(" + distance + ", 1)", x.echo(distance, 1), OptimalParser.BAD_ARGUMENT);
            Check.due("echo(" + distance + ", 100)", x.echo(distance, 100), OptimalParser.BAD_ARGUMENT);
        }
        for (int n : Check.cells(0, -1, Integer.MIN_VALUE)) {
            Check.due("echo(1, " + n + ")", x.echo(1, n), OptimalParser.BAD_ARGUMENT);
        }
        Check.lists("after refused echo", x, Check.BUSY_SOURCE, Check.BUSY_BLOCK, Check.BUSY_OUTPUT);
    }

    private static void full() {
        OptimalParser x = Check.busy();
        for (int n : Check.cells(29, 33, Integer.MAX_VALUE)) {
            Check.due("echo(4, " + n + ") with 28 places", x.echo(4, n), OptimalParser.FULL);
            Check.lists("after an echo too long", x, Check.BUSY_SOURCE, Check.BUSY_BLOCK, Check.BUSY_OUTPUT);
        }
        Check.due("echo(4, 28)", x.echo(4, 28), 32);
        Check.due("echo(32, 1) on a full SOURCE", x.echo(32, 1), OptimalParser.FULL);
        Check.due("echo(33, 1) on a full SOURCE", x.echo(33, 1), OptimalParser.BAD_ARGUMENT);
        Check.due("echo(32, 0) on a full SOURCE", x.echo(32, 0), OptimalParser.BAD_ARGUMENT);
        Check.due("echo(0, 1) on a full SOURCE", x.echo(0, 1), OptimalParser.BAD_ARGUMENT);
    }
}
