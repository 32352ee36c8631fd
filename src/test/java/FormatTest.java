/** What the document says under "The format", held against encode and against decode. */
public final class FormatTest {
    public static void main(String[] args) {
        Check.sentence("If x < F: field(x) = x, and ext(x) is empty.", FormatTest::belowF);
        Check.sentence("If x >= F: field(x) = F, and ext(x) is (x - F) / E cells of value E, followed by one cell of value (x - F) % E.",
                FormatTest::fromF);
        Check.sentence("So ext(x) then has at least one cell, and its last cell is always less than E (when x - F is a multiple of E, "
                + "the last cell is 0).", FormatTest::lastCell);
        Check.sentence("A block is zero or more match sequences followed by exactly one final sequence.", FormatTest::blocks);
        Check.sentence("A match sequence (L, M, D), with L >= 0, M >= K, D >= 1, is these cells in this order: one token cell "
                + "16 * field(L) + field(M - K); the cells ext(L); L literal cells; the cell D % 256; the cell D / 256; the cells ext(M - K).",
                FormatTest::matchSequence);
        Check.sentence("A final sequence (L), with L >= 0, is these cells in this order: one token cell 16 * field(L); the cells ext(L); "
                + "L literal cells. The block ends here.", FormatTest::finalSequence);
        Check.sentence("Starting with an empty result, the sequences are carried out in order.", FormatTest::inOrder);
        Check.sentence("The L literal cells are appended to the result in their order.", FormatTest::literalsInOrder);
        Check.sentence("Then, for a match sequence, M times one cell is appended that equals the cell D places before the then current end "
                + "of the result (D = 1 is the last cell).", FormatTest::copies);
        Check.sentence("Cells appended by the same match are copied again where D reaches them, so M greater than D is allowed.",
                FormatTest::copiedAgain);
        Check.sentence("every D is at most the length of the result when its match begins, its own literals included;",
                FormatTest::distances);
        Check.sentence("the result never has more than `CAPACITY` cells;", FormatTest::capacity);
        Check.sentence("if there is at least one match sequence, the final sequence has L >= T.", FormatTest::tail);
        Check.sentence("With no match sequence the final sequence is allowed any L, also L < T.", FormatTest::noMatch);
        Check.sentence("`encode` makes the BLOCK 21, 97, 1, 0, 0: the match sequence (1, 9, 1), then the final sequence (0).",
                FormatTest::example);
        Check.end("FormatTest");
    }

    private static OptimalParser parser(int... numbers) {
        return new OptimalParser(numbers[0], numbers[1], numbers[2], numbers[3]);
    }

    /** The block is chosen for the source, and stands for it. */
    private static void stands(OptimalParser x, int[] source, int... block) {
        Check.setSource(x, source);
        Check.due("encode()", x.encode(), block.length);
        Check.due("BLOCK", Check.list(x, OptimalParser.BLOCK), block);
        means(x, source, block);
    }

    private static void means(OptimalParser x, int[] result, int... block) {
        Check.setBlock(x, block);
        Check.due("decode()", x.decode(), result.length);
        Check.due("OUTPUT", Check.list(x, OptimalParser.OUTPUT), result);
    }

    private static void refuses(OptimalParser x, int want, int... block) {
        Check.setBlock(x, block);
        Check.stays("decode()", x, want, x::decode);
    }

    private static void belowF() {
        for (int f = 2; f <= 15; f++) {
            for (int number = 0; number < f; number++) {
                int[] source = Check.counting(100, number);
                stands(parser(f, 2, 3, 0), source, Check.join(Check.cells(16 * number), source));
                for (int k = 3; k <= 6; k++) {
                    stands(parser(f, 2, k, 0), Check.same(9, 1 + k + number), 16 + number, 9, 1, 0, 0);
                }
            }
        }
    }

    /** Every number of literals that there can be, for every F and E. */
    private static void fromF() {
        for (int f = 2; f <= 15; f++) {
            for (int e = 2; e <= 255; e++) {
                OptimalParser x = parser(f, e, 3, 0);
                for (int literals = f; literals <= 32; literals++) {
                    int[] source = Check.counting(100, literals);
                    int[] block = new int[1 + (literals - f) / e + 1 + literals];
                    block[0] = 16 * f;
                    for (int i = 0; i < (literals - f) / e; i++) {
                        block[1 + i] = e;
                    }
                    block[1 + (literals - f) / e] = (literals - f) % e;
                    System.arraycopy(source, 0, block, block.length - literals, literals);
                    stands(x, source, block);
                }
            }
        }
        // With F = 2 and K = 3 one long match is never worth splitting, so its extension shows for every E.
        for (int e = 2; e <= 255; e++) {
            for (int match = 5; match <= 31; match++) {
                stands(parser(2, e, 3, 0), Check.same(9, 1 + match),
                        Check.join(Check.cells(18, 9, 1, 0), Probe.extension(2, e, match - 3), Check.cells(0)));
            }
        }
    }

    private static void lastCell() {
        stands(parser(15, 255, 3, 0), Check.counting(1, 15), Check.join(Check.cells(240, 0), Check.counting(1, 15)));
        stands(parser(2, 2, 3, 0), Check.counting(1, 2), 32, 0, 1, 2);
        stands(parser(2, 2, 3, 0), Check.counting(1, 4), 32, 2, 0, 1, 2, 3, 4);
        stands(parser(2, 2, 3, 0), Check.counting(1, 6), 32, 2, 2, 0, 1, 2, 3, 4, 5, 6);
        stands(parser(2, 30, 3, 0), Check.counting(1, 32), Check.join(Check.cells(32, 30, 0), Check.counting(1, 32)));
        stands(parser(2, 31, 3, 0), Check.counting(1, 32), Check.join(Check.cells(32, 30), Check.counting(1, 32)));
        stands(parser(2, 2, 3, 0), Check.same(9, 6), 18, 9, 1, 0, 0, 0);
        stands(parser(2, 2, 3, 0), Check.same(9, 8), 18, 9, 1, 0, 2, 0, 0);
        stands(parser(2, 2, 3, 0), Check.same(9, 10), 18, 9, 1, 0, 2, 2, 0, 0);
        // Without its last cell the number isn't whole: what follows is read for it.
        refuses(parser(2, 2, 3, 0), OptimalParser.BAD_EXTENSION, 32, 2, 8, 8, 8, 8);
        refuses(parser(2, 2, 3, 0), OptimalParser.SHORT, 32);
        refuses(parser(2, 2, 3, 0), OptimalParser.SHORT, 32, 2);
        refuses(parser(15, 255, 3, 0), OptimalParser.SHORT, 240);
    }

    private static void blocks() {
        OptimalParser x = parser(15, 255, 3, 0);
        stands(x, Check.NONE, 0);
        stands(x, Check.cells(9), 16, 9);
        stands(x, Check.same(9, 5), 17, 9, 1, 0, 0);
        stands(x, Check.cells(9, 9, 9, 9, 9, 8, 8, 8, 8, 8), 17, 9, 1, 0, 17, 8, 1, 0, 0);
        stands(x, Check.cells(9, 9, 9, 9, 9, 8, 8, 8, 8, 8, 7, 7, 7, 7, 7, 1), 17, 9, 1, 0, 17, 8, 1, 0, 17, 7, 1, 0, 16, 1);
        // No final sequence, and cells behind a final sequence.
        refuses(x, OptimalParser.SHORT);
        refuses(x, OptimalParser.SHORT, 17, 9, 1, 0);
        refuses(x, OptimalParser.SHORT, 17, 9, 1, 0, 17, 8, 1, 0);
        refuses(x, OptimalParser.SHORT, 0, 0);
        refuses(x, OptimalParser.BAD_OFFSET, 0, 0, 0);
        refuses(x, OptimalParser.SHORT, 16, 9, 0);
        refuses(x, OptimalParser.BAD_OFFSET, 16, 9, 16, 9);
        refuses(x, OptimalParser.SHORT, 17, 9, 1, 0, 0, 0);
    }

    private static void matchSequence() {
        // All parts at once: 8 literals and a match of 8 cells, 8 places back, both with an extension of several cells.
        stands(parser(2, 3, 4, 0), Check.join(Check.counting(1, 8), Check.counting(1, 8)),
                34, 3, 3, 0, 1, 2, 3, 4, 5, 6, 7, 8, 8, 0, 2, 0);
        // L = 0: a match right behind a match.
        stands(parser(15, 255, 3, 0), Check.cells(1, 2, 3, 4, 5, 6, 3, 4, 5, 6, 1, 2, 3, 4, 5),
                97, 1, 2, 3, 4, 5, 6, 4, 0, 2, 10, 0, 0);
        // M = K, the least, with every K.
        for (int k = 3; k <= 6; k++) {
            stands(parser(15, 255, k, 0), Check.same(9, 1 + k), 16, 9, 1, 0, 0);
        }
        // D from 1 to 16, its second cell always 0.
        for (int d = 1; d <= 16; d++) {
            int match = 32 - d;
            int[] source = new int[32];
            for (int i = 0; i < 32; i++) {
                source[i] = 100 + i % d;
            }
            stands(parser(15, 255, 6, 0), source, Check.join(Check.cells(16 * Probe.field(15, d) + Probe.field(15, match - 6)),
                    Probe.extension(15, 255, d), Check.counting(100, d), Check.cells(d, 0), Probe.extension(15, 255, match - 6), Check.cells(0)));
        }
        // D = 256 and above would be 0 in its first cell; it is beyond every result.
        refuses(parser(15, 255, 3, 0), OptimalParser.BAD_OFFSET, 16, 9, 0, 1, 0);
        refuses(parser(15, 255, 3, 0), OptimalParser.BAD_OFFSET, 16, 9, 1, 1, 0);
        // D = 0 is none.
        refuses(parser(15, 255, 3, 0), OptimalParser.BAD_OFFSET, 16, 9, 0, 0, 0);
    }

    private static void finalSequence() {
        OptimalParser x = parser(15, 255, 3, 0);
        stands(x, Check.NONE, 0);
        stands(x, Check.cells(0), 16, 0);
        stands(x, Check.counting(1, 14), Check.join(Check.cells(224), Check.counting(1, 14)));
        stands(x, Check.counting(1, 15), Check.join(Check.cells(240, 0), Check.counting(1, 15)));
        stands(x, Check.counting(1, 32), Check.join(Check.cells(240, 17), Check.counting(1, 32)));
        // Behind a match its token has no match field, though M - K of nothing would be below 0.
        stands(x, Check.same(9, 5), 17, 9, 1, 0, 0);
        stands(x, Check.join(Check.same(9, 8), Check.counting(1, 3)), 20, 9, 1, 0, 48, 1, 2, 3);
        refuses(x, OptimalParser.BAD_END, 17, 9);
        refuses(x, OptimalParser.SHORT, 16, 9, 9);
    }

    private static void inOrder() {
        OptimalParser x = parser(15, 255, 3, 0);
        for (int round = 0; round < 3; round++) {
            means(x, Check.cells(1, 2, 2, 2, 2, 3, 4, 3, 4, 3, 5), 32, 1, 2, 1, 0, 32, 3, 4, 2, 0, 16, 5);
            means(x, Check.cells(1, 1, 1, 1, 2), 16, 1, 1, 0, 16, 2);
        }
        // The second of two equal sequences copies what the first has made.
        means(x, Check.cells(1, 2, 3, 1, 2, 3, 3, 1, 2), 48, 1, 2, 3, 3, 0, 0, 4, 0, 0);
    }

    private static void literalsInOrder() {
        for (int literals = 0; literals <= 32; literals++) {
            int[] falling = new int[literals];
            for (int i = 0; i < literals; i++) {
                falling[i] = 255 - i;
            }
            stands(parser(15, 255, 3, 0), falling,
                    Check.join(Check.cells(16 * Probe.field(15, literals)), Probe.extension(15, 255, literals), falling));
        }
    }

    /** M no greater than D, so that no cell of the match is copied again. */
    private static void copies() {
        for (int d = 3; d <= 14; d++) {
            for (int match = 3; match <= d; match++) {
                int[] front = Check.counting(50, 14);
                means(parser(15, 255, 3, 0), Check.join(front, Check.counting(64 - d, match)),
                        Check.join(Check.cells(224 + match - 3), front, Check.cells(d, 0, 0)));
            }
        }
        means(parser(15, 255, 3, 0), Check.cells(7, 8, 9, 9, 9, 9), 48, 7, 8, 9, 1, 0, 0);
    }

    private static void copiedAgain() {
        for (int d = 1; d <= 14; d++) {
            for (int match = Math.max(4, d + 1); match <= 32 - d; match++) {
                int[] source = new int[d + match];
                for (int i = 0; i < source.length; i++) {
                    source[i] = 200 + i % d;
                }
                stands(parser(15, 255, 4, 0), source, Check.join(Check.cells(16 * d + Probe.field(15, match - 4)),
                        Check.counting(200, d), Check.cells(d, 0), Probe.extension(15, 255, match - 4), Check.cells(0)));
            }
        }
    }

    private static void distances() {
        for (int literals = 1; literals <= 14; literals++) {
            int[] front = Check.counting(50, literals);
            int[] whole = new int[literals + 4];
            for (int i = 0; i < whole.length; i++) {
                whole[i] = 50 + i % literals;
            }
            means(parser(15, 255, 4, 0), whole, Check.join(Check.cells(16 * literals), front, Check.cells(literals, 0, 0)));
            refuses(parser(15, 255, 4, 0), OptimalParser.BAD_OFFSET,
                    Check.join(Check.cells(16 * literals), front, Check.cells(literals + 1, 0, 0)));
        }
        // At the front there is nothing to be copied; own literals count, those of the next sequence don't.
        refuses(parser(15, 255, 4, 0), OptimalParser.BAD_OFFSET, 0, 1, 0, 16, 1);
        means(parser(15, 255, 4, 0), Check.cells(1, 1, 1, 1, 1, 2, 1, 1, 1, 1), 16, 1, 1, 0, 16, 2, 6, 0, 0);
        refuses(parser(15, 255, 4, 0), OptimalParser.BAD_OFFSET, 16, 1, 1, 0, 16, 2, 7, 0, 0);
        // The farthest distance is chosen where the front of SOURCE comes again.
        stands(parser(15, 255, 4, 0), Check.cells(1, 2, 3, 4, 5, 6, 1, 2, 3, 4, 5), 97, 1, 2, 3, 4, 5, 6, 6, 0, 0);
    }

    private static void capacity() {
        OptimalParser x = parser(15, 255, 4, 0);
        stands(x, Check.same(9, 32), 31, 9, 1, 0, 12, 0);
        refuses(x, OptimalParser.OVERFLOW, 31, 9, 1, 0, 13, 0);
        refuses(x, OptimalParser.OVERFLOW, 31, 9, 1, 0, 12, 16, 9);
        means(x, Check.join(Check.same(9, 31), Check.cells(8)), 31, 9, 1, 0, 11, 16, 8);
        refuses(x, OptimalParser.OVERFLOW, 31, 9, 1, 0, 11, 32, 8, 8);
        stands(x, Check.counting(1, 32), Check.join(Check.cells(240, 17), Check.counting(1, 32)));
        refuses(x, OptimalParser.OVERFLOW, Check.join(Check.cells(240, 18), Check.counting(1, 33)));
    }

    private static void tail() {
        for (int t = 0; t <= 8; t++) {
            for (int length = t + 5; length <= 19 + t && length <= 32; length++) {
                int match = length - 1 - t;
                int[] end = Check.same(9, t);
                // The match saves cells only from 4 on; one of 3 is as short as literals, and preferred.
                stands(parser(15, 255, 3, t), Check.same(9, length), matchAndTail(match, t, end));
                if (t > 0) {
                    int[] tooShort = matchAndTail(match, t - 1, Check.same(9, t - 1));
                    refuses(parser(15, 255, 3, t), OptimalParser.BAD_END, tooShort);
                }
            }
        }
    }

    private static int[] matchAndTail(int match, int literals, int[] end) {
        return Check.join(Check.cells(16 + Probe.field(15, match - 3), 9, 1, 0), Probe.extension(15, 255, match - 3),
                Check.cells(16 * literals), end);
    }

    private static void noMatch() {
        for (int t = 0; t <= 8; t++) {
            for (int literals = 0; literals <= 9; literals++) {
                int[] source = Check.counting(60, literals);
                stands(parser(15, 255, 3, t), source, Check.join(Check.cells(16 * literals), source));
            }
        }
        // Equal cells too few for a match and a tail are literals, however few they are.
        for (int length = 0; length <= 11; length++) {
            stands(parser(15, 255, 3, 8), Check.same(9, length), Check.join(Check.cells(16 * length), Check.same(9, length)));
        }
    }

    private static void example() {
        OptimalParser x = parser(15, 255, 4, 0);
        x.repeat(97, 10);
        Check.due("encode()", x.encode(), 5);
        Check.lists("the example", x, Check.same(97, 10), Check.cells(21, 97, 1, 0, 0), Check.NONE);
        Check.due("decode()", x.decode(), 10);
        Check.lists("the example decoded", x, Check.same(97, 10), Check.cells(21, 97, 1, 0, 0), Check.same(97, 10));
    }
}
