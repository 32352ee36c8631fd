public final class OptimalParser {
    public static final int CAPACITY = 32;
    public static final int BLOCK_CAPACITY = 64;

    public static final int SOURCE = 0;
    public static final int BLOCK = 1;
    public static final int OUTPUT = 2;

    public static final int FULL = -1;
    public static final int BAD_ARGUMENT = -2;
    public static final int SHORT = -3;
    public static final int BAD_FIELD = -4;
    public static final int BAD_EXTENSION = -5;
    public static final int OVERFLOW = -6;
    public static final int BAD_END = -7;
    public static final int BAD_OFFSET = -8;
    public static final int DIFFERENT = -128;

    /** A plan has an entry for every position of SOURCE and one for its end. */
    private static final int POSITIONS = CAPACITY + 1;

    /** Above the cost of every block, and small enough that adding to it can't wrap around. */
    private static final int IMPOSSIBLE = 1000000;

    private final int fieldLimit;
    private final int extLimit;
    private final int minMatch;
    private final int tail;

    private final int[] source = new int[CAPACITY];
    private int sourceLength = 0;
    private final int[] block = new int[BLOCK_CAPACITY];
    private int blockLength = 0;
    private final int[] output = new int[CAPACITY];
    private int outputLength = 0;

    // Scratch of the reader. It is apart from OUTPUT because a refused block,
    // and every call of surplus, leaves OUTPUT as it was.
    private final int[] result = new int[CAPACITY];
    private int resultLength = 0;
    private int cursor = 0;

    // Scratch of the planner: for each position of SOURCE the fewest cells that
    // encode what follows it, and the first sequence of the preferred way to do so.
    // A planned match of 0 cells stands for the final sequence.
    private final int[] planCost = new int[POSITIONS];
    private final int[] planLiterals = new int[POSITIONS];
    private final int[] planMatch = new int[POSITIONS];
    private final int[] planDistance = new int[POSITIONS];

    public OptimalParser(int fieldLimit, int extLimit, int minMatch, int tail) {
        this.fieldLimit = clamp(fieldLimit, 2, 15);
        this.extLimit = clamp(extLimit, 2, 255);
        this.minMatch = clamp(minMatch, 3, 6);
        this.tail = clamp(tail, 0, 8);
    }

    public int put(int v) {
        if (sourceLength >= CAPACITY) {
            return FULL;
        }
        appendToSource(v & 255);
        return sourceLength;
    }

    public int repeat(int v, int n) {
        if (n < 1) {
            return BAD_ARGUMENT;
        }
        if (n > CAPACITY - sourceLength) {
            return FULL;
        }
        for (int i = 0; i < n; i++) {
            appendToSource(v & 255);
        }
        return sourceLength;
    }

    public int echo(int distance, int n) {
        if (distance < 1 || distance > sourceLength) {
            return BAD_ARGUMENT;
        }
        if (n < 1) {
            return BAD_ARGUMENT;
        }
        if (n > CAPACITY - sourceLength) {
            return FULL;
        }
        for (int i = 0; i < n; i++) {
            appendToSource(source[sourceLength - distance]);
        }
        return sourceLength;
    }

    public int cut(int which, int n) {
        if (which != SOURCE && which != BLOCK) {
            return BAD_ARGUMENT;
        }
        if (n < 0 || n > lengthOf(which)) {
            return BAD_ARGUMENT;
        }
        if (which == SOURCE) {
            sourceLength = n;
        } else {
            blockLength = n;
        }
        return n;
    }

    public int adopt() {
        for (int i = 0; i < outputLength; i++) {
            source[i] = output[i];
        }
        sourceLength = outputLength;
        return sourceLength;
    }

    public int encode() {
        planSource();
        writePlan();
        return blockLength;
    }

    public int surplus() {
        int answer = readBlock();
        if (answer < 0) {
            return DIFFERENT;
        }
        if (!resultEqualsSource()) {
            return DIFFERENT;
        }
        planSource();
        return blockLength - planCost[0];
    }

    public int feed(int v) {
        if (blockLength >= BLOCK_CAPACITY) {
            return FULL;
        }
        appendToBlock(v & 255);
        return blockLength;
    }

    public int poke(int index, int v) {
        if (index < 0 || index >= blockLength) {
            return BAD_ARGUMENT;
        }
        int before = block[index];
        block[index] = v & 255;
        return before;
    }

    public int decode() {
        int answer = readBlock();
        if (answer < 0) {
            return answer;
        }
        for (int i = 0; i < resultLength; i++) {
            output[i] = result[i];
        }
        outputLength = resultLength;
        return outputLength;
    }

    public int length(int which) {
        return lengthOf(which);
    }

    public int cellAt(int which, int index) {
        // For an unknown list the length is BAD_ARGUMENT, below 0, so that no index is under it.
        if (index < 0 || index >= lengthOf(which)) {
            return BAD_ARGUMENT;
        }
        if (which == SOURCE) {
            return source[index];
        }
        if (which == BLOCK) {
            return block[index];
        }
        return output[index];
    }

    private static int clamp(int value, int least, int greatest) {
        if (value < least) {
            return least;
        }
        if (value > greatest) {
            return greatest;
        }
        return value;
    }

    private int lengthOf(int which) {
        if (which == SOURCE) {
            return sourceLength;
        }
        if (which == BLOCK) {
            return blockLength;
        }
        if (which == OUTPUT) {
            return outputLength;
        }
        return BAD_ARGUMENT;
    }

    private void appendToSource(int cell) {
        if (sourceLength < CAPACITY) {
            source[sourceLength] = cell;
            sourceLength++;
        }
    }

    private void appendToBlock(int cell) {
        if (blockLength < BLOCK_CAPACITY) {
            block[blockLength] = cell;
            blockLength++;
        }
    }

    private void appendToResult(int cell) {
        if (resultLength < CAPACITY) {
            result[resultLength] = cell;
            resultLength++;
        }
    }

    // Numbers of the format. The constructor keeps extLimit at 2 or more, so it may divide.

    private int field(int x) {
        return x < fieldLimit ? x : fieldLimit;
    }

    private int extensionLength(int x) {
        return x < fieldLimit ? 0 : (x - fieldLimit) / extLimit + 1;
    }

    private void writeExtension(int x) {
        if (x < fieldLimit) {
            return;
        }
        int over = x - fieldLimit;
        int whole = over / extLimit;
        for (int i = 0; i < whole; i++) {
            appendToBlock(extLimit);
        }
        appendToBlock(over % extLimit);
    }

    /**
     * Goes from the end of SOURCE to its front, so that the cost of what follows a match
     * is known when the match is weighed. At each position the first sequences are weighed
     * in the order of preference; as a later one must be strictly cheaper to win, the
     * preferred of the cheapest stays.
     */
    private void planSource() {
        for (int start = sourceLength; start >= 0; start--) {
            planCost[start] = IMPOSSIBLE;
            int mostLiterals = sourceLength - start - minMatch;
            for (int literals = 0; literals <= mostLiterals; literals++) {
                planMatches(start, literals);
            }
            planFinal(start);
        }
    }

    private void planMatches(int start, int literals) {
        int from = start + literals;
        int literalCost = 1 + extensionLength(literals) + literals;
        for (int match = sourceLength - from; match >= minMatch; match--) {
            int matchCost = 2 + extensionLength(match - minMatch);
            int cost = literalCost + matchCost + planCost[from + match];
            if (cost < planCost[start]) {
                int distance = nearestDistance(from, match);
                if (distance > 0) {
                    planCost[start] = cost;
                    planLiterals[start] = literals;
                    planMatch[start] = match;
                    planDistance[start] = distance;
                }
            }
        }
    }

    private void planFinal(int start) {
        int literals = sourceLength - start;
        // A match has nothing to copy at the front, so exactly the sequences
        // that start behind it have a match before them and are bound by the tail.
        if (start > 0 && literals < tail) {
            return;
        }
        int cost = 1 + extensionLength(literals) + literals;
        if (cost < planCost[start]) {
            planCost[start] = cost;
            planLiterals[start] = literals;
            planMatch[start] = 0;
            planDistance[start] = 0;
        }
    }

    /** Answers 0 if no distance gives the match. */
    private int nearestDistance(int from, int match) {
        for (int distance = 1; distance <= from; distance++) {
            if (repeatsAt(from, match, distance)) {
                return distance;
            }
        }
        return 0;
    }

    private boolean repeatsAt(int from, int match, int distance) {
        for (int i = from; i < from + match; i++) {
            if (source[i] != source[i - distance]) {
                return false;
            }
        }
        return true;
    }

    private void writePlan() {
        blockLength = 0;
        int start = 0;
        for (int written = 0; written < POSITIONS; written++) {
            int match = planMatch[start];
            writeLiterals(start);
            if (match == 0) {
                break;
            }
            writeMatch(start);
            start += planLiterals[start] + match;
        }
    }

    private void writeLiterals(int start) {
        int literals = planLiterals[start];
        int match = planMatch[start];
        int matchField = match == 0 ? 0 : field(match - minMatch);
        int token = 16 * field(literals) + matchField;
        appendToBlock(token);
        writeExtension(literals);
        for (int i = start; i < start + literals; i++) {
            appendToBlock(source[i]);
        }
    }

    private void writeMatch(int start) {
        int distance = planDistance[start];
        appendToBlock(distance % 256);
        appendToBlock(distance / 256);
        writeExtension(planMatch[start] - minMatch);
    }

    // The reader. Its methods answer a refusal, which is below 0, or 0 or more to go on.

    private int readBlock() {
        cursor = 0;
        resultLength = 0;
        boolean matched = false;
        // Each sequence reads at least its token, so the last round finds nothing to read.
        for (int round = 0; round <= blockLength; round++) {
            if (cursor >= blockLength) {
                return SHORT;
            }
            int token = readCell();
            int literalField = token / 16;
            int matchField = token % 16;
            if (literalField > fieldLimit || matchField > fieldLimit) {
                return BAD_FIELD;
            }
            int literals = readNumber(literalField);
            if (literals < 0) {
                return literals;
            }
            int copied = readLiterals(literals);
            if (copied < 0) {
                return copied;
            }
            if (cursor >= blockLength) {
                boolean tooShort = matched && literals < tail;
                return matchField != 0 || tooShort ? BAD_END : resultLength;
            }
            int carriedOut = readMatch(matchField);
            if (carriedOut < 0) {
                return carriedOut;
            }
            matched = true;
        }
        return SHORT;
    }

    private int readCell() {
        if (cursor >= blockLength) {
            return 0;
        }
        int cell = block[cursor];
        cursor++;
        return cell;
    }

    private int readNumber(int fieldRead) {
        if (fieldRead < fieldLimit) {
            return fieldRead;
        }
        int number = fieldRead;
        for (int round = 0; round <= blockLength; round++) {
            if (cursor >= blockLength) {
                return SHORT;
            }
            int cell = readCell();
            if (cell > extLimit) {
                return BAD_EXTENSION;
            }
            number += cell;
            if (cell < extLimit) {
                return number;
            }
        }
        return SHORT;
    }

    private int readLiterals(int literals) {
        if (literals > blockLength - cursor) {
            return SHORT;
        }
        if (literals > CAPACITY - resultLength) {
            return OVERFLOW;
        }
        for (int i = 0; i < literals; i++) {
            int cell = readCell();
            appendToResult(cell);
        }
        return literals;
    }

    private int readMatch(int matchField) {
        if (blockLength - cursor < 2) {
            return SHORT;
        }
        int low = readCell();
        int high = readCell();
        int distance = low + 256 * high;
        if (distance == 0 || distance > resultLength) {
            return BAD_OFFSET;
        }
        int number = readNumber(matchField);
        if (number < 0) {
            return number;
        }
        int match = minMatch + number;
        if (match > CAPACITY - resultLength) {
            return OVERFLOW;
        }
        for (int i = 0; i < match; i++) {
            appendToResult(result[resultLength - distance]);
        }
        return match;
    }

    private boolean resultEqualsSource() {
        if (resultLength != sourceLength) {
            return false;
        }
        for (int i = 0; i < resultLength; i++) {
            if (result[i] != source[i]) {
                return false;
            }
        }
        return true;
    }
}
