import java.util.ArrayList;
import java.util.Arrays;
import java.util.List;

/**
 * The document once more, over lists and recursion, written apart from the program:
 * whole blocks are built and compared by the words of the document, none is planned by cost alone.
 */
final class Model {
    /** A sequence; a match of 0 cells is the final one. */
    record Sequence(int literals, int match, int distance) {
    }

    final int f;
    final int e;
    final int k;
    final int t;
    List<Integer> source = new ArrayList<>();
    List<Integer> block = new ArrayList<>();
    List<Integer> output = new ArrayList<>();

    Model(int f, int e, int k, int t) {
        this.f = Math.min(15, Math.max(2, f));
        this.e = Math.min(255, Math.max(2, e));
        this.k = Math.min(6, Math.max(3, k));
        this.t = Math.min(8, Math.max(0, t));
    }

    private List<Integer> named(int which) {
        return switch (which) {
            case 0 -> source;
            case 1 -> block;
            case 2 -> output;
            default -> null;
        };
    }

    int put(int v) {
        if (source.size() == 32) {
            return -1;
        }
        source.add(v & 255);
        return source.size();
    }

    int repeat(int v, int n) {
        if (n < 1) {
            return -2;
        }
        if ((long) n + source.size() > 32) {
            return -1;
        }
        for (int i = 0; i < n; i++) {
            source.add(v & 255);
        }
        return source.size();
    }

    int echo(int distance, int n) {
        if (distance < 1 || distance > source.size() || n < 1) {
            return -2;
        }
        if ((long) n + source.size() > 32) {
            return -1;
        }
        for (int i = 0; i < n; i++) {
            source.add(source.get(source.size() - distance));
        }
        return source.size();
    }

    int cut(int which, int n) {
        if (which != 0 && which != 1 || n < 0 || n > named(which).size()) {
            return -2;
        }
        named(which).subList(n, named(which).size()).clear();
        return n;
    }

    int adopt() {
        source = new ArrayList<>(output);
        return source.size();
    }

    int encode() {
        block = cellsOf(chosen());
        return block.size();
    }

    int surplus() {
        List<Integer> result = new ArrayList<>();
        if (read(result) < 0 || !result.equals(source)) {
            return -128;
        }
        return block.size() - cellsOf(chosen()).size();
    }

    int feed(int v) {
        if (block.size() == 64) {
            return -1;
        }
        block.add(v & 255);
        return block.size();
    }

    int poke(int index, int v) {
        if (index < 0 || index >= block.size()) {
            return -2;
        }
        return block.set(index, v & 255);
    }

    int decode() {
        List<Integer> result = new ArrayList<>();
        int answer = read(result);
        if (answer >= 0) {
            output = result;
        }
        return answer;
    }

    int length(int which) {
        return named(which) == null ? -2 : named(which).size();
    }

    int cellAt(int which, int index) {
        if (named(which) == null || index < 0 || index >= named(which).size()) {
            return -2;
        }
        return named(which).get(index);
    }

    // Decoding, step by step as promise 11 tells it.

    private int at;

    private int read(List<Integer> result) {
        at = 0;
        boolean matched = false;
        while (true) {
            if (rest() == 0) {
                return -3;
            }
            int token = block.get(at++);
            int a = token / 16;
            int b = token % 16;
            if (a > f || b > f) {
                return -4;
            }
            int l = a;
            if (a == f) {
                int more = readExtension();
                if (more < 0) {
                    return more;
                }
                l += more;
            }
            if (l > rest()) {
                return -3;
            }
            if (result.size() + l > 32) {
                return -6;
            }
            result.addAll(block.subList(at, at + l));
            at += l;
            if (rest() == 0) {
                if (b != 0) {
                    return -7;
                }
                return matched && l < t ? -7 : result.size();
            }
            if (rest() == 1) {
                return -3;
            }
            int p = block.get(at++);
            int q = block.get(at++);
            int d = p + 256 * q;
            if (d == 0 || d > result.size()) {
                return -8;
            }
            int m = k + b;
            if (b == f) {
                int more = readExtension();
                if (more < 0) {
                    return more;
                }
                m += more;
            }
            if (result.size() + m > 32) {
                return -6;
            }
            for (int i = 0; i < m; i++) {
                result.add(result.get(result.size() - d));
            }
            matched = true;
        }
    }

    private int rest() {
        return block.size() - at;
    }

    private int readExtension() {
        int sum = 0;
        while (true) {
            if (rest() == 0) {
                return -3;
            }
            int cell = block.get(at++);
            if (cell > e) {
                return -5;
            }
            sum += cell;
            if (cell < e) {
                return sum;
            }
        }
    }

    // Encoding.

    private List<Integer> extension(int x) {
        List<Integer> cells = new ArrayList<>();
        if (x >= f) {
            int left = x - f;
            while (left >= e) {
                cells.add(e);
                left -= e;
            }
            cells.add(left);
        }
        return cells;
    }

    List<Integer> cellsOf(List<Sequence> sequences) {
        List<Integer> cells = new ArrayList<>();
        int from = 0;
        for (Sequence s : sequences) {
            int low = s.match == 0 ? 0 : Math.min(f, s.match - k);
            cells.add(16 * Math.min(f, s.literals) + low);
            cells.addAll(extension(s.literals));
            cells.addAll(source.subList(from, from + s.literals));
            if (s.match > 0) {
                cells.add(s.distance % 256);
                cells.add(s.distance / 256);
                cells.addAll(extension(s.match - k));
            }
            from += s.literals + s.match;
        }
        return cells;
    }

    private int costOf(List<Sequence> sequences) {
        int cost = 0;
        for (Sequence s : sequences) {
            cost += 1 + s.literals + extension(s.literals).size();
            if (s.match > 0) {
                cost += 2 + extension(s.match - k).size();
            }
        }
        return cost;
    }

    private boolean preferred(List<Sequence> one, List<Sequence> other) {
        int costOne = costOf(one);
        int costOther = costOf(other);
        if (costOne != costOther) {
            return costOne < costOther;
        }
        for (int i = 0; i < one.size() && i < other.size(); i++) {
            Sequence a = one.get(i);
            Sequence b = other.get(i);
            if (a.literals != b.literals) {
                return a.literals < b.literals;
            }
            if (a.match != b.match) {
                return a.match > b.match;
            }
            if (a.distance != b.distance) {
                return a.distance < b.distance;
            }
        }
        return false;
    }

    private List<Sequence> join(Sequence first, List<Sequence> then) {
        List<Sequence> all = new ArrayList<>();
        all.add(first);
        all.addAll(then);
        return all;
    }

    private int commonRun(int from, int distance) {
        int run = 0;
        while (from + run < source.size()
                && source.get(from + run).equals(source.get(from + run - distance))) {
            run++;
        }
        return run;
    }

    private List<Sequence> firstMatches(int start) {
        List<Sequence> all = new ArrayList<>();
        for (int from = start; from < source.size(); from++) {
            for (int distance = 1; distance <= from; distance++) {
                int run = commonRun(from, distance);
                for (int match = k; match <= run; match++) {
                    all.add(new Sequence(from - start, match, distance));
                }
            }
        }
        return all;
    }

    private List<List<Sequence>> known;

    List<Sequence> chosen() {
        known = new ArrayList<>();
        for (int i = 0; i <= source.size(); i++) {
            known.add(null);
        }
        return chosenFrom(0, false);
    }

    /** Empty if nothing legal follows; a sequence list is never empty otherwise. */
    private List<Sequence> chosenFrom(int start, boolean matched) {
        if (matched && known.get(start) != null) {
            return known.get(start);
        }
        List<Sequence> best = List.of();
        int left = source.size() - start;
        if (!matched || left >= t) {
            best = List.of(new Sequence(left, 0, 0));
        }
        for (Sequence s : firstMatches(start)) {
            List<Sequence> then = chosenFrom(start + s.literals + s.match, true);
            if (!then.isEmpty()) {
                List<Sequence> one = join(s, then);
                if (best.isEmpty() || preferred(one, best)) {
                    best = one;
                }
            }
        }
        if (matched) {
            known.set(start, best);
        }
        return best;
    }

    /** Every legal block for SOURCE, one after the other; for short sources alone. */
    List<Sequence> chosenOfAll() {
        List<List<Sequence>> all = new ArrayList<>();
        collect(0, new ArrayList<>(), all);
        List<Sequence> best = all.get(0);
        for (List<Sequence> one : all) {
            if (preferred(one, best)) {
                best = one;
            }
        }
        return best;
    }

    private void collect(int start, List<Sequence> sofar, List<List<Sequence>> all) {
        int left = source.size() - start;
        if (sofar.isEmpty() || left >= t) {
            List<Sequence> whole = new ArrayList<>(sofar);
            whole.add(new Sequence(left, 0, 0));
            all.add(whole);
        }
        for (Sequence s : firstMatches(start)) {
            sofar.add(s);
            collect(start + s.literals + s.match, sofar, all);
            sofar.remove(sofar.size() - 1);
        }
    }

    static int[] array(List<Integer> cells) {
        return cells.stream().mapToInt(Integer::intValue).toArray();
    }

    @Override
    public String toString() {
        return "F=" + f + " E=" + e + " K=" + k + " T=" + t + " SOURCE=" + source
                + " BLOCK=" + Arrays.toString(array(block));
    }
}
