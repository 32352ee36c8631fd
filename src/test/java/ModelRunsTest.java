/** Long runs of mixed calls, each answer and all three lists held against the model. */
public final class ModelRunsTest {
    private static final int[] ODD = {Integer.MIN_VALUE, -257, -1, 0, 1, 2, 3, 31, 32, 33, 63, 64, 65, 255, 256, Integer.MAX_VALUE};

    public static void main(String[] args) {
        Dice dice = new Dice(2026);
        for (int run = 0; run < 250; run++) {
            int[] n = {dice.below(18), 1 + dice.below(dice.below(2) == 0 ? 4 : 300), 2 + dice.below(6), dice.below(11) - 1};
            run(run, dice, new OptimalParser(n[0], n[1], n[2], n[3]), new Model(n[0], n[1], n[2], n[3]));
        }
        Check.end("ModelRunsTest");
    }

    private static void run(int run, Dice dice, OptimalParser x, Model model) {
        for (int step = 0; step < 120; step++) {
            int call = dice.below(14);
            int a = argument(dice);
            int b = argument(dice);
            String name = "run " + run + ", step " + step + ", " + name(call) + "(" + a + ", " + b + ")";
            Check.due(name, answer(x, call, a, b), answer(model, call, a, b));
            Check.lists(name, x, Model.array(model.source), Model.array(model.block), Model.array(model.output));
        }
    }

    private static int argument(Dice dice) {
        return dice.below(8) == 0 ? ODD[dice.below(ODD.length)] : dice.below(6);
    }

    private static String name(int call) {
        String[] names = {"put", "repeat", "echo", "cut", "adopt", "encode", "surplus", "feed", "poke", "decode",
            "length", "cellAt", "encode, poke", "encode, surplus, decode"};
        return names[call];
    }

    private static int answer(OptimalParser x, int call, int a, int b) {
        switch (call) {
            case 0: return x.put(a);
            case 1: return x.repeat(a, b);
            case 2: return x.echo(a, b);
            case 3: return x.cut(a, b);
            case 4: return x.adopt();
            case 5: return x.encode();
            case 6: return x.surplus();
            case 7: return x.feed(a);
            case 8: return x.poke(a, b);
            case 9: return x.decode();
            case 10: return x.length(a);
            case 11: return x.cellAt(a, b);
            case 12: return x.encode() + 1000 * x.poke(a, b) + 1000000 * x.surplus();
            default: return x.encode() + 1000 * x.surplus() + 1000000 * x.decode();
        }
    }

    private static int answer(Model x, int call, int a, int b) {
        switch (call) {
            case 0: return x.put(a);
            case 1: return x.repeat(a, b);
            case 2: return x.echo(a, b);
            case 3: return x.cut(a, b);
            case 4: return x.adopt();
            case 5: return x.encode();
            case 6: return x.surplus();
            case 7: return x.feed(a);
            case 8: return x.poke(a, b);
            case 9: return x.decode();
            case 10: return x.length(a);
            case 11: return x.cellAt(a, b);
            case 12: return x.encode() + 1000 * x.poke(a, b) + 1000000 * x.surplus();
            default: return x.encode() + 1000 * x.surplus() + 1000000 * x.decode();
        }
    }
}
