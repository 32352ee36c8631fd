/** Promise 9: feed appends the low eight bits to BLOCK until it is full. */
public final class Promise09FeedTest {
    public static void main(String[] args) {
        int[][] given = {{0, 0}, {97, 97}, {128, 128}, {255, 255}, {256, 0}, {-1, 255}, {-256, 0}, {Integer.MIN_VALUE, 0}, {Integer.MAX_VALUE, 255}};
        OptimalParser x = new OptimalParser(15, 255, 4, 0);
        for (int i = 0; i < given.length; i++) {
            Check.due("feed(" + given[i][0] + ")", x.feed(given[i][0]), i + 1);
            Check.due("the cell of feed(" + given[i][0] + ")", x.cellAt(OptimalParser.BLOCK, i), given[i][1]);
        }

        OptimalParser full = new OptimalParser(2, 2, 3, 0);
        for (int i = 1; i <= 64; i++) {
            Check.due("feed number " + i, full.feed(i), i);
        }
        Check.due("feed on a full BLOCK", full.feed(200), OptimalParser.FULL);
        Check.due("feed on a full BLOCK again", full.feed(0), OptimalParser.FULL);
        Check.lists("after it", full, new int[0], Check.counting(1, 64), new int[0]);
        full.cut(OptimalParser.BLOCK, 63);
        Check.due("feed after cut", full.feed(7), 64);
        Check.due("the cell of it", full.cellAt(OptimalParser.BLOCK, 63), 7);

        OptimalParser y = Check.busy();
        Check.due("feed(1)", y.feed(1), 4);
        Check.lists("after feed", y, Check.BUSY_SOURCE, Check.cells(32, 8, 9, 1), Check.BUSY_OUTPUT);
        Check.due("encode()", y.encode(), 5);
        Check.due("feed behind encode()", y.feed(-2), 6);
        Check.lists("after both", y, Check.BUSY_SOURCE, Check.cells(64, 5, 6, 7, 8, 254), Check.BUSY_OUTPUT);
        Check.end("Promise09FeedTest");
    }
}
