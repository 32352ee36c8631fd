import java.util.Arrays;

/** Promise 11: decode accepts legal blocks and refuses the others with the first reason met. */
public final class Promise11DecodeTest {
    private static final int SHORT = OptimalParser.SHORT;
    private static final int BAD_FIELD = OptimalParser.BAD_FIELD;
    private static final int BAD_EXTENSION = OptimalParser.BAD_EXTENSION;
    private static final int OVERFLOW = OptimalParser.OVERFLOW;
    private static final int BAD_END = OptimalParser.BAD_END;
    private static final int BAD_OFFSET = OptimalParser.BAD_OFFSET;

    public static void main(String[] args) {
        Check.sentence("`decode()` reads BLOCK from its front, building a result that is empty at first.", Promise11DecodeTest::fromTheFront);
        Check.sentence("If rest is 0: `SHORT`. Read the token t; a = t / 16, b = t % 16.", Promise11DecodeTest::token);
        Check.sentence("If a > F or b > F: `BAD_FIELD`.", Promise11DecodeTest::badField);
        Check.sentence("L = a. If a = F, read an extension and add it to L, cell by cell:", Promise11DecodeTest::literalNumber);
        Check.sentence("if rest is 0: `SHORT`;", Promise11DecodeTest::extensionShort);
        Check.sentence("read a cell e; if e > E: `BAD_EXTENSION`;", Promise11DecodeTest::badExtension);
        Check.sentence("add e; if e < E the extension is over; if e = E go on with the next cell.", Promise11DecodeTest::extensionOver);
        Check.sentence("If L > rest: `SHORT`.", Promise11DecodeTest::literalsShort);
        Check.sentence("If length of result + L > `CAPACITY`: `OVERFLOW`.", Promise11DecodeTest::literalsOverflow);
        Check.sentence("Read L cells and append them to the result.", Promise11DecodeTest::literalsAppended);
        Check.sentence("If rest is 0, this is the final sequence: if b is not 0: `BAD_END`;", Promise11DecodeTest::matchFieldAtEnd);
        Check.sentence("if a match was carried out before in this block and L < T: `BAD_END`; otherwise the block is accepted.",
                Promise11DecodeTest::tailAtEnd);
        Check.sentence("If rest is 1: `SHORT`.", Promise11DecodeTest::offsetShort);
        Check.sentence("Read a cell p, then a cell q; D = p + 256 * q. If D is 0 or D > length of result: `BAD_OFFSET`.",
                Promise11DecodeTest::badOffset);
        Check.sentence("M = K + b. If b = F, read an extension exactly as in step 2 and add it to M.", Promise11DecodeTest::matchNumber);
        Check.sentence("If length of result + M > `CAPACITY`: `OVERFLOW`.", Promise11DecodeTest::matchOverflow);
        Check.sentence("Append M cells as said under Meaning in the format. Go on with step 1 for the next sequence.",
                Promise11DecodeTest::nextSequence);
        Check.sentence("The first refusal met is the answer,", Promise11DecodeTest::firstRefusal);
        Check.sentence("and OUTPUT stays as it was, whatever part of the result had been built.", Promise11DecodeTest::outputStays);
        Check.sentence("If the block is accepted, OUTPUT is replaced by the result, and the answer is its length (0 or more).",
                Promise11DecodeTest::outputReplaced);
        Check.sentence("An empty BLOCK is answered with `SHORT`,", Promise11DecodeTest::emptyBlock);
        Check.sentence("and so is a BLOCK that ends right after a match sequence, if no refusal was met up to and including "
                + "step 7 of that match sequence (step 1 then finds rest 0).", Promise11DecodeTest::endsBehindMatch);
        Check.sentence("The BLOCK of the one cell 0 is accepted, OUTPUT becomes empty, and the answer is 0.", Promise11DecodeTest::oneZero);
        Check.sentence("SOURCE and BLOCK stay always, and SOURCE has no influence on the answer.", Promise11DecodeTest::sourceAndBlock);
        anyCells();
        Check.end("Promise11DecodeTest");
    }

    private static OptimalParser usual() {
        return Check.usual();
    }

    private static OptimalParser small() {
        return new OptimalParser(2, 2, 3, 0);
    }

    private static OptimalParser tail(int t) {
        return new OptimalParser(15, 255, 4, t);
    }

    private static void accepts(OptimalParser x, int[] block, int... want) {
        Check.setSource(x, 5, 5, 5);
        Check.setBlock(x, block);
        Check.due("decode() of " + Arrays.toString(block), x.decode(), want.length);
        Check.lists("decoded " + Arrays.toString(block), x, Check.cells(5, 5, 5), block, want);
    }

    /** An OUTPUT is there before, so that it can be seen to stay. */
    private static void refuses(OptimalParser x, int want, int... block) {
        Check.setBlock(x, 16, 33);
        x.decode();
        Check.setSource(x, 5, 5, 5);
        Check.setBlock(x, block);
        Check.due("decode() of " + Arrays.toString(block), x.decode(), want);
        Check.lists("refused " + Arrays.toString(block), x, Check.cells(5, 5, 5), block, Check.cells(33));
    }

    private static void fromTheFront() {
        OptimalParser x = usual();
        accepts(x, Check.cells(48, 1, 2, 3), 1, 2, 3);
        // A second call begins with an empty result again: no room is taken, and nothing is there to be copied.
        accepts(x, Check.cells(48, 1, 2, 3), 1, 2, 3);
        refuses(x, BAD_OFFSET, 16, 9, 2, 0, 0);
        accepts(x, Check.join(Check.cells(240, 17), Check.counting(1, 32)), Check.counting(1, 32));
        accepts(x, Check.join(Check.cells(240, 17), Check.counting(2, 32)), Check.counting(2, 32));
        refuses(x, BAD_OFFSET, 0, 1, 0, 0);
        refuses(tail(3), BAD_END, 16, 1, 1, 0, 0);
        OptimalParser y = tail(3);
        refuses(y, BAD_END, 16, 1, 1, 0, 0);
        // The match of the former call is not one of this block.
        accepts(y, Check.cells(16, 4), 4);
    }

    /** Every token alone, for every F. */
    private static void token() {
        refuses(usual(), SHORT);
        for (int f = 2; f <= 15; f++) {
            OptimalParser x = new OptimalParser(f, 255, 4, 0);
            for (int token = 1; token < 256; token++) {
                int a = token / 16;
                int b = token % 16;
                refuses(x, a > f || b > f ? BAD_FIELD : a > 0 ? SHORT : BAD_END, token);
            }
            accepts(x, Check.cells(0));
        }
        // Both halves of one token: 3 literals and a match of 4 + 2.
        accepts(usual(), Check.cells(50, 1, 2, 3, 3, 0, 0), 1, 2, 3, 1, 2, 3, 1, 2, 3);
        accepts(usual(), Check.cells(35, 1, 2, 2, 0, 0), 1, 2, 1, 2, 1, 2, 1, 2, 1);
    }

    private static void badField() {
        for (int f = 2; f <= 14; f++) {
            OptimalParser x = new OptimalParser(f, 2, 3, 0);
            for (int above = f + 1; above <= 15; above++) {
                refuses(x, BAD_FIELD, 16 * above);
                refuses(x, BAD_FIELD, Check.join(Check.cells(16 * above), Check.counting(1, above)));
                refuses(x, BAD_FIELD, above);
                refuses(x, BAD_FIELD, 16 + above, 6, 1, 0, 0, 0);
                refuses(x, BAD_FIELD, 17 * above);
                refuses(x, BAD_FIELD, 16, 6, 1, 0, 16 * above);
                refuses(x, BAD_FIELD, 16, 6, 1, 0, above);
            }
            accepts(x, Check.join(Check.cells(16 * f, 0), Check.counting(1, f)), Check.counting(1, f));
            accepts(x, Check.cells(16 + f, 6, 1, 0, 0, 0), Check.same(6, 4 + f));
        }
        // With F = 15 no field is above it.
        refuses(usual(), SHORT, 255);
        accepts(usual(), Check.cells(31, 7, 1, 0, 0, 0), Check.same(7, 20));
    }

    private static void literalNumber() {
        for (int f = 2; f <= 15; f++) {
            for (int e : Check.cells(2, 3, 4, 17, 30, 31, 254, 255)) {
                for (int literals = 0; literals <= 32; literals++) {
                    accepts(new OptimalParser(f, e, 3, 8), Probe.literals(f, e, literals), Check.counting(40, literals));
                }
            }
        }
    }

    private static void extensionShort() {
        refuses(usual(), SHORT, 240);
        refuses(usual(), SHORT, 240, 255);
        refuses(usual(), SHORT, 240, 255, 255);
        refuses(small(), SHORT, 32);
        refuses(small(), SHORT, 32, 2);
        refuses(small(), SHORT, 32, 2, 2);
        refuses(small(), SHORT, Check.join(Check.cells(32), Check.same(2, 63)));
        refuses(usual(), SHORT, Check.join(Check.cells(240), Check.same(255, 63)));
        refuses(small(), SHORT, 16, 6, 1, 0, 32);
        refuses(small(), SHORT, 18, 6, 1, 0);
        refuses(small(), SHORT, 18, 6, 1, 0, 2, 2);
        refuses(usual(), SHORT, 31, 6, 1, 0);
        refuses(usual(), SHORT, Check.join(Check.cells(31, 6, 1, 0), Check.same(255, 60)));
    }

    private static void badExtension() {
        for (int e = 2; e <= 254; e++) {
            OptimalParser x = new OptimalParser(2, e, 3, 0);
            for (int above : Check.cells(e + 1, 255)) {
                refuses(x, BAD_EXTENSION, 32, above);
                refuses(x, BAD_EXTENSION, 32, e, above);
                refuses(x, BAD_EXTENSION, 32, e, e, above, 0);
                refuses(x, BAD_EXTENSION, 18, 6, 1, 0, above);
                refuses(x, BAD_EXTENSION, 18, 6, 1, 0, e, above, 0);
                refuses(x, BAD_EXTENSION, 16, 6, 1, 0, 32, above);
            }
            refuses(x, SHORT, 32, e);
        }
        // With E = 255 no cell is above it.
        refuses(usual(), SHORT, 240, 255);
        // Where the field is below F, there is no extension to be bad.
        accepts(small(), Check.cells(16, 255), 255);
    }

    private static void extensionOver() {
        accepts(small(), Check.cells(32, 0, 8, 9), 8, 9);
        accepts(small(), Check.cells(32, 1, 7, 8, 9), 7, 8, 9);
        accepts(small(), Check.cells(32, 2, 0, 1, 2, 3, 4), 1, 2, 3, 4);
        accepts(small(), Check.cells(32, 2, 1, 1, 2, 3, 4, 5), 1, 2, 3, 4, 5);
        accepts(small(), Check.cells(32, 2, 2, 1, 1, 2, 3, 4, 5, 6, 7), 1, 2, 3, 4, 5, 6, 7);
        // The cell behind the end of the extension is a literal, also if it equals E or is above it.
        accepts(small(), Check.cells(32, 0, 2, 2), 2, 2);
        accepts(small(), Check.cells(32, 1, 255, 255, 255), 255, 255, 255);
        accepts(usual(), Check.join(Check.cells(240, 0), Check.same(255, 15)), Check.same(255, 15));
        // A single E that is not followed by another cell is not over.
        refuses(small(), SHORT, 18, 6, 1, 0, 2);
        accepts(small(), Check.cells(18, 6, 1, 0, 2, 0, 0), Check.same(6, 8));
    }

    private static void literalsShort() {
        for (int literals = 1; literals <= 32; literals++) {
            int[] block = Probe.literals(15, 255, literals);
            for (int missing = 1; missing <= literals; missing++) {
                refuses(usual(), SHORT, Check.first(block.length - missing, block));
            }
        }
        refuses(usual(), SHORT, 16, 1, 1, 0, 32, 1);
        // One cell too few is short, however many would overflow.
        refuses(usual(), SHORT, Check.join(Check.cells(240, 18), Check.counting(1, 32)));
        refuses(usual(), SHORT, Check.join(Check.cells(240, 255, 255, 254), Check.same(1, 60)));
    }

    private static void literalsOverflow() {
        accepts(usual(), Check.join(Check.cells(240, 17), Check.counting(1, 32)), Check.counting(1, 32));
        for (int literals = 33; literals <= 62; literals++) {
            refuses(usual(), OVERFLOW, Check.join(Check.cells(240, literals - 15), Check.counting(1, literals)));
            refuses(usual(), OVERFLOW, Check.join(Check.cells(240, literals - 15), Check.counting(1, 62)));
        }
        // Behind a match of 4 to 31 cells there is room for so many fewer.
        for (int match = 4; match <= 18; match++) {
            int room = 31 - match;
            int[] head = Check.cells(16 + match - 4, 7, 1, 0);
            accepts(usual(), Check.join(head, Probe.literals(15, 255, room)), Check.join(Check.same(7, 1 + match), Check.counting(40, room)));
            refuses(usual(), OVERFLOW, Check.join(head, Probe.literals(15, 255, room + 1)));
        }
        refuses(usual(), OVERFLOW, 31, 7, 1, 0, 12, 16, 1);
    }

    private static void literalsAppended() {
        for (int literals = 0; literals <= 14; literals++) {
            int[] cells = Check.counting(200, literals);
            // In the first sequence, and as the last one, behind what a match has made.
            accepts(usual(), Check.join(Check.cells(16 * literals), cells), cells);
            accepts(usual(), Check.join(Check.cells(16, 7, 1, 0, 16 * literals), cells), Check.join(Check.same(7, 5), cells));
            // Between two matches: the offset is read right behind the literals and reaches over all of them.
            accepts(usual(), Check.join(Check.cells(16, 7, 1, 0, 16 * literals), cells, Check.cells(literals + 5, 0, 0)),
                    Check.join(Check.same(7, 5), cells, Check.same(7, 4)));
        }
        // Literals that look like tokens, extensions or offsets are cells like any other.
        accepts(small(), Check.cells(32, 2, 0, 255, 0, 2, 16), 255, 0, 2, 16);
        accepts(usual(), Check.cells(64, 16, 1, 0, 0), 16, 1, 0, 0);
        for (int v = 0; v <= 255; v++) {
            accepts(usual(), Check.cells(32, v, 255 - v), v, 255 - v);
        }
    }

    private static void matchFieldAtEnd() {
        for (int b = 1; b <= 15; b++) {
            refuses(usual(), BAD_END, b);
            refuses(usual(), BAD_END, 16 + b, 1);
            refuses(usual(), BAD_END, 16, 1, 1, 0, b);
            refuses(usual(), BAD_END, 16, 1, 1, 0, 48 + b, 1, 2, 3);
            refuses(tail(3), BAD_END, 16, 1, 1, 0, 48 + b, 1, 2, 3);
        }
        refuses(usual(), BAD_END, Check.join(Check.cells(241, 0), Check.counting(1, 15)));
        refuses(small(), BAD_END, 34, 0, 1, 2);
    }

    private static void tailAtEnd() {
        for (int t = 0; t <= 8; t++) {
            for (int literals = 0; literals <= 10; literals++) {
                int[] end = Probe.literals(15, 255, literals);
                accepts(tail(t), end, Check.counting(40, literals));
                int[] once = Check.join(Check.cells(16, 1, 1, 0), end);
                int[] twice = Check.join(Check.cells(144, 1, 2, 3, 4, 5, 6, 7, 8, 9, 9, 0, 0, 9, 0), end);
                if (literals < t) {
                    refuses(tail(t), BAD_END, once);
                    refuses(tail(t), BAD_END, twice);
                } else {
                    accepts(tail(t), once, Check.join(Check.same(1, 5), Check.counting(40, literals)));
                    accepts(tail(t), twice, Check.join(Check.counting(1, 9), Check.counting(1, 8), Check.counting(40, literals)));
                }
            }
        }
        // A literal field of F is read with its extension before it is held against T.
        accepts(new OptimalParser(2, 2, 3, 8), Check.join(Check.cells(16, 1, 1, 0), Probe.literals(2, 2, 8)),
                Check.join(Check.same(1, 4), Check.counting(40, 8)));
        refuses(new OptimalParser(2, 2, 3, 8), BAD_END, Check.join(Check.cells(16, 1, 1, 0), Probe.literals(2, 2, 7)));
    }

    private static void offsetShort() {
        for (int p : Check.cells(0, 1, 2, 16, 255)) {
            refuses(usual(), SHORT, 0, p);
            refuses(usual(), SHORT, 16, 1, p);
            refuses(usual(), SHORT, 31, 1, p);
            refuses(tail(3), SHORT, 16, 1, p);
            refuses(usual(), SHORT, 16, 1, 1, 0, 0, p);
            refuses(usual(), SHORT, Check.join(Check.cells(240, 17), Check.counting(1, 32), Check.cells(p)));
        }
        refuses(usual(), SHORT, 0, 0);
    }

    private static void badOffset() {
        // No distance at all, before and behind literals.
        refuses(usual(), BAD_OFFSET, 0, 0, 0);
        refuses(usual(), BAD_OFFSET, 0, 1, 0, 0);
        refuses(usual(), BAD_OFFSET, 16, 1, 0, 0, 0);
        refuses(usual(), BAD_OFFSET, 16, 1, 0, 0);
        for (int literals = 1; literals <= 28; literals++) {
            int[] head = Probe.literals(15, 255, literals);
            for (int d = 1; d <= literals; d++) {
                int[] want = Check.join(Check.counting(40, literals), Check.same(0, 4));
                for (int i = literals; i < want.length; i++) {
                    want[i] = want[i - d];
                }
                accepts(usual(), Check.join(head, Check.cells(d, 0, 0)), want);
                // The second cell counts 256 times, so that it alone puts D beyond every result.
                refuses(usual(), BAD_OFFSET, Check.join(head, Check.cells(d, 1, 0)));
            }
            for (int d : Check.cells(0, literals + 1, literals + 2, 128, 255)) {
                refuses(usual(), BAD_OFFSET, Check.join(head, Check.cells(d, 0, 0)));
                refuses(usual(), BAD_OFFSET, Check.join(head, Check.cells(d, 1, 0)));
                refuses(usual(), BAD_OFFSET, Check.join(head, Check.cells(d, 255, 0)));
            }
        }
        // A second match may reach what the first has made, and no farther.
        accepts(usual(), Check.cells(16, 1, 1, 0, 0, 5, 0, 0), Check.same(1, 9));
        refuses(usual(), BAD_OFFSET, 16, 1, 1, 0, 0, 6, 0, 0);
    }

    private static void matchNumber() {
        for (int k = 3; k <= 6; k++) {
            for (int f = 2; f <= 15; f++) {
                for (int e : Check.cells(2, 3, 7, 25, 255)) {
                    for (int match = k; match <= 31; match++) {
                        int[] block = Check.join(Check.cells(16 + Probe.field(f, match - k), 7, 1, 0),
                                Probe.extension(f, e, match - k), Check.cells(0));
                        accepts(new OptimalParser(f, e, k, 0), block, Check.same(7, 1 + match));
                    }
                }
            }
        }
        // Both numbers of one sequence with an extension: the literals' behind the token, the match's behind D.
        accepts(small(), Check.cells(34, 0, 6, 7, 2, 0, 1, 16, 1), 6, 7, 6, 7, 6, 7, 6, 7, 1);
        // Exactly as in step 2.
        refuses(small(), SHORT, 18, 6, 1, 0);
        refuses(small(), SHORT, 18, 6, 1, 0, 2);
        refuses(small(), BAD_EXTENSION, 18, 6, 1, 0, 3, 0);
        refuses(small(), BAD_EXTENSION, 18, 6, 1, 0, 2, 3, 0);
    }

    private static void matchOverflow() {
        for (int literals = 1; literals <= 32; literals++) {
            int[] head = Probe.literals(15, 255, literals);
            int room = 32 - literals;
            for (int match = 4; match <= 40; match++) {
                int[] block = Check.join(Check.cells(head[0] + Probe.field(15, match - 4)), Arrays.copyOfRange(head, 1, head.length),
                        Check.cells(literals, 0), Probe.extension(15, 255, match - 4), Check.cells(0));
                if (match > room) {
                    refuses(usual(), OVERFLOW, block);
                } else {
                    int[] want = new int[literals + match];
                    for (int i = 0; i < want.length; i++) {
                        want[i] = 40 + i % literals;
                    }
                    accepts(usual(), block, want);
                }
            }
        }
        refuses(usual(), OVERFLOW, 31, 7, 1, 0, 255, 255, 255, 0);
        refuses(usual(), OVERFLOW, 31, 7, 1, 0, 9, 0, 1, 0, 0);
        accepts(usual(), Check.cells(31, 7, 1, 0, 8, 0, 1, 0, 0), Check.same(7, 32));
        refuses(small(), OVERFLOW, Check.join(Check.cells(18, 6, 1, 0), Check.same(2, 14), Check.cells(0, 0)));
        accepts(small(), Check.join(Check.cells(18, 6, 1, 0), Check.same(2, 13), Check.cells(0, 0)), Check.same(6, 32));
    }

    private static void nextSequence() {
        accepts(usual(), Check.cells(48, 1, 2, 3, 3, 0, 16, 9), 1, 2, 3, 1, 2, 3, 1, 9);
        accepts(usual(), Check.cells(48, 1, 2, 3, 2, 0, 0), 1, 2, 3, 2, 3, 2, 3);
        // As many sequences as there is room for: ten matches of 3 behind one literal.
        int[] many = Check.cells(16, 8, 1, 0);
        for (int i = 2; i <= 10; i++) {
            many = Check.join(many, Check.cells(0, 1, 0));
            accepts(small(), Check.join(many, Check.cells(0)), Check.same(8, 1 + 3 * i));
        }
        accepts(small(), Check.join(many, Check.cells(16, 9)), Check.join(Check.same(8, 31), Check.cells(9)));
        refuses(small(), OVERFLOW, Check.join(many, Check.cells(0, 1, 0, 0)));
    }

    private static void firstRefusal() {
        // Step 1 before step 2: both fields are looked at before an extension is.
        refuses(small(), BAD_FIELD, 35, 3);
        refuses(small(), BAD_FIELD, 35);
        // Step 2 before step 3: the whole extension is read before L is held against anything.
        refuses(small(), BAD_EXTENSION, Check.join(Check.cells(32), Check.same(2, 40), Check.cells(3)));
        refuses(small(), SHORT, Check.join(Check.cells(32), Check.same(2, 63)));
        // Within step 3, SHORT before OVERFLOW.
        refuses(small(), SHORT, Check.join(Check.cells(32), Check.same(2, 40), Check.cells(0, 1)));
        // Step 3 before step 4 and before step 5.
        refuses(tail(3), OVERFLOW, 31, 7, 1, 0, 12, 17, 1);
        refuses(usual(), OVERFLOW, Check.join(Check.cells(241, 18), Check.counting(1, 33)));
        refuses(usual(), OVERFLOW, Check.join(Check.cells(240, 18), Check.counting(1, 33), Check.cells(0)));
        refuses(usual(), OVERFLOW, Check.join(Check.cells(240, 18), Check.counting(1, 33), Check.cells(0, 0)));
        // Step 4 before step 6: at the end no extension of a match is missed.
        refuses(usual(), BAD_END, 31, 1);
        refuses(small(), BAD_END, 18, 6);
        // Within step 5, SHORT before BAD_OFFSET; step 5 before step 6.
        refuses(usual(), SHORT, 31, 1, 0);
        refuses(small(), BAD_OFFSET, 18, 6, 2, 0, 3);
        refuses(small(), BAD_OFFSET, 18, 6, 2, 0);
        refuses(small(), BAD_OFFSET, Check.join(Check.cells(18, 6, 0, 0), Check.same(2, 30), Check.cells(0, 0)));
        // Step 6 before step 7.
        refuses(small(), BAD_EXTENSION, Check.join(Check.cells(18, 6, 1, 0), Check.same(2, 30), Check.cells(3)));
        refuses(small(), SHORT, Check.join(Check.cells(18, 6, 1, 0), Check.same(2, 30)));
        // Step 7 before step 1 of the next sequence.
        refuses(usual(), OVERFLOW, 31, 7, 1, 0, 13);
        refuses(small(), OVERFLOW, Check.join(Check.cells(18, 6, 1, 0), Check.same(2, 14), Check.cells(0, 255)));
        // An earlier sequence before a later one.
        refuses(small(), BAD_OFFSET, 16, 6, 9, 0, 255);
        refuses(tail(3), BAD_END, 31, 7, 1, 0, 12, 0);
    }

    private static void outputStays() {
        int[][] blocks = {{}, {96, 9, 9, 9, 9, 9}, {17, 9}, {16, 9, 2, 0, 0}, {21, 9, 1, 0}, {31, 9, 1, 0, 13, 0},
            {31, 9, 1, 0, 12}, {31, 9, 1, 0, 12, 1}, {31, 9, 1, 0, 12, 16, 9}, {31, 9, 1, 0}};
        for (int[] block : blocks) {
            for (OptimalParser x : new OptimalParser[] {Check.usual(), Check.busy(), Check.full()}) {
                int[] output = Check.list(x, OptimalParser.OUTPUT);
                Check.setBlock(x, block);
                Check.due("refused", x.decode() < 0 ? 1 : 0, 1);
                Check.due("OUTPUT after it", Check.list(x, OptimalParser.OUTPUT), output);
                Check.due("adopt() behind it", x.adopt(), output.length);
                Check.due("SOURCE after that", Check.list(x, OptimalParser.SOURCE), output);
            }
        }
    }

    private static void outputReplaced() {
        OptimalParser x = usual();
        for (int before = 0; before <= 32; before++) {
            for (int now = 0; now <= 32; now++) {
                Check.setBlock(x, Probe.literals(15, 255, before));
                x.decode();
                accepts(x, Probe.literals(15, 255, now), Check.counting(40, now));
            }
        }
        accepts(x, Check.cells(31, 7, 1, 0, 12, 0), Check.same(7, 32));
        accepts(x, Check.cells(32, 1, 2), 1, 2);
        accepts(x, Check.cells(0));
    }

    private static void emptyBlock() {
        for (OptimalParser x : new OptimalParser[] {usual(), Check.busy(), Check.full(), tail(8)}) {
            x.cut(OptimalParser.BLOCK, 0);
            Check.stays("decode() of an empty BLOCK", x, SHORT, x::decode);
        }
        OptimalParser x = Check.usual();
        x.encode();
        x.decode();
        x.cut(OptimalParser.BLOCK, 0);
        Check.stays("decode() of a BLOCK made empty", x, SHORT, x::decode);
    }

    private static void endsBehindMatch() {
        refuses(usual(), SHORT, 16, 1, 1, 0);
        refuses(usual(), SHORT, 31, 1, 1, 0, 0);
        refuses(usual(), SHORT, 31, 1, 1, 0, 12);
        refuses(usual(), SHORT, 16, 1, 1, 0, 0, 1, 0);
        refuses(small(), SHORT, 18, 6, 1, 0, 2, 1);
        refuses(tail(3), SHORT, 16, 1, 1, 0);
        refuses(tail(3), SHORT, 64, 1, 2, 3, 4, 1, 0);
        // A refusal in that sequence goes before.
        refuses(usual(), BAD_OFFSET, 16, 1, 2, 0);
        refuses(small(), BAD_EXTENSION, 18, 6, 1, 0, 3);
        refuses(usual(), OVERFLOW, 31, 1, 1, 0, 13);
        refuses(small(), BAD_FIELD, 19, 6, 1, 0);
    }

    private static void oneZero() {
        for (int t = 0; t <= 8; t++) {
            OptimalParser x = tail(t);
            accepts(x, Check.cells(0));
            accepts(x, Check.cells(16, 9), 9);
            accepts(x, Check.cells(0));
        }
        OptimalParser x = Check.full();
        Check.setBlock(x, 0);
        Check.due("decode() of the one cell 0", x.decode(), 0);
        Check.lists("after it", x, Check.FULL_SOURCE, Check.cells(0), Check.NONE);
    }

    private static void sourceAndBlock() {
        int[][] blocks = {{}, {0}, {1}, {255}, {32, 8, 9}, {21, 97, 1, 0, 0}, {16, 1, 2, 0, 0}, {31, 7, 1, 0, 13, 0}};
        int[][] sources = {{}, {1}, {8, 9}, Check.same(97, 10), Check.FULL_SOURCE};
        for (int[] block : blocks) {
            OptimalParser alone = usual();
            Check.setBlock(alone, block);
            int want = alone.decode();
            int[] output = Check.list(alone, OptimalParser.OUTPUT);
            for (int[] source : sources) {
                OptimalParser x = usual();
                Check.setSource(x, source);
                Check.setBlock(x, block);
                Check.due("decode() of " + Arrays.toString(block), x.decode(), want);
                Check.lists("after it", x, source, block, output);
                Check.due("decode() a second time", x.decode(), want);
                Check.lists("after that", x, source, block, output);
            }
        }
        OptimalParser full = Check.full();
        full.decode();
        Check.lists("after a full BLOCK", full, Check.FULL_SOURCE, Check.FULL_BLOCK, Check.FULL_OUTPUT);
    }

    /** Blocks of cells that are likely to be read far, against the model. */
    private static void anyCells() {
        Dice dice = new Dice(3);
        for (int i = 0; i < 6000; i++) {
            int[] n = {2 + dice.below(5), 2 + dice.below(4), 3 + dice.below(4), dice.below(4)};
            OptimalParser x = new OptimalParser(n[0], n[1], n[2], n[3]);
            Model model = new Model(n[0], n[1], n[2], n[3]);
            int cells = dice.below(dice.below(4) == 0 ? 65 : 16);
            for (int c = 0; c < cells; c++) {
                int cell = dice.below(3) == 0 ? 16 * dice.below(n[0] + 1) + dice.below(n[0] + 1) : dice.below(4);
                x.feed(cell);
                model.feed(cell);
            }
            Check.due("decode() for " + model, x.decode(), model.decode());
            Check.due("OUTPUT for " + model, Check.list(x, OptimalParser.OUTPUT), Model.array(model.output));
        }
    }
}
