import java.util.Random;

/** Texts and RUNS by chance (the same ones each time), held against Model; nothing may be thrown either. */
public final class FuzzTest {
    private static int right = 0;
    private static int faults = 0;
    private static int wrongs = 0;
    private static final int[] ENDS = new int[8];
    private static final int[] FAULTS = new int[6];
    private static int told = 0;

    public static void main(String[] args) {
        int rounds = args.length > 0 ? Integer.parseInt(args[0]) : 4000;
        long first = args.length > 1 ? Long.parseLong(args[1]) : 1;
        for (long seed = first; seed < first + rounds && told < 20; seed++) {
            round(seed);
        }
        System.out.println(right + " right, " + faults + " faulty, " + wrongs + " wrong texts; FAULTS by kind "
            + java.util.Arrays.toString(FAULTS) + "; RUNS by end " + java.util.Arrays.toString(ENDS));
        Bench.finish();
    }

    private static void round(long seed) {
        Random chance = new Random(seed * 7919);
        Author author = new Author(seed);
        TaintHouse house = new TaintHouse();
        Model model = new Model();
        String text = author.write();
        String last = text;
        for (int i = 0; i < 6; i++) {
            String next = i == 0 ? text : change(author, chance, chance.nextInt(4) == 0 ? last : text);
            last = next;
            if (Bench.put(house, next) != model.put(next)) {
                same(seed, next, "put", 0, 1);
            }
            same(seed, next, "count(4)", house.count(4), model.count(4));
            int answer = model.text();
            count(answer);
            same(seed, next, "text()", house.text(), answer);
            same(seed, next, "place()", house.place(), model.place());
            askProgram(seed, next, house, model);
            askRun(seed, next, house, model);
            if (i == 0 || answer >= 0) {
                play(seed, next, house, model, chance);
            }
        }
    }

    private static String change(Author author, Random chance, String text) {
        switch (chance.nextInt(8)) {
            case 0: return author.babble();
            case 1: return author.spoil(text);
            case 2: return author.write();
            default: return author.bend(text);
        }
    }

    private static void count(int answer) {
        if (answer >= 0) {
            right++;
        } else if (answer < -5000) {
            faults++;
            FAULTS[-5000 - answer]++;
        } else {
            wrongs++;
        }
    }

    private static void play(long seed, String text, TaintHouse house, Model model, Random chance) {
        int runs = Math.min(6, 2 * model.count(1));
        for (int i = 0; i < runs; i++) {
            for (int k = 0; k < 5; k++) {
                set(seed, text, house, model, chance);
            }
            int method = chance.nextInt(model.count(1) + 1) - (chance.nextInt(20) == 0 ? 1 : 0);
            int end = model.run(method);
            same(seed, text, "run(" + method + ")", house.run(method), end);
            if (end >= 0) {
                ENDS[end]++;
            }
            askRun(seed, text, house, model);
        }
    }

    private static void set(long seed, String text, TaintHouse house, Model model, Random chance) {
        int k = chance.nextInt(18) - 1;
        int v = chance.nextInt(3) == 0 ? chance.nextInt() : chance.nextInt(9) - 2;
        switch (chance.nextInt(4)) {
            case 0: same(seed, text, "flows", house.flows(v), model.flows(v)); break;
            case 1: same(seed, text, "policy", house.policy(k, v), model.policy(k, v)); break;
            case 2: same(seed, text, "input", house.input(k, v), model.input(k, v)); break;
            default: same(seed, text, "argument", house.argument(k % 9, v, v * 31 + k), model.argument(k % 9, v, v * 31 + k)); break;
        }
    }

    private static void askProgram(long seed, String text, TaintHouse house, Model model) {
        for (int what = -1; what <= 6; what++) {
            same(seed, text, "count(" + what + ")", house.count(what), model.count(what));
            for (int c = -1; c <= model.count(0); c++) {
                same(seed, text, "type(" + c + ", " + what + ")", house.type(c, what), model.type(c, what));
            }
            for (int m = -1; m <= model.count(1); m++) {
                same(seed, text, "method(" + m + ", " + what + ")", house.method(m, what), model.method(m, what));
            }
        }
    }

    private static void askRun(long seed, String text, TaintHouse house, Model model) {
        for (int what = -1; what <= 8; what++) {
            same(seed, text, "result(" + what + ")", house.result(what), model.result(what));
        }
        for (int what = -1; what <= 4; what++) {
            for (int i = -1; i <= model.result(4); i++) {
                same(seed, text, "event(" + i + ", " + what + ")", house.event(i, what), model.event(i, what));
            }
        }
        for (int i = -1; i <= model.result(6); i++) {
            for (int what = -1; what <= 3; what++) {
                same(seed, text, "object(" + i + ", " + what + ")", house.object(i, what), model.object(i, what));
            }
            for (int k = -1; k <= model.object(i, 1); k++) {
                for (int what = -1; what <= 2; what++) {
                    same(seed, text, "slot(" + i + ", " + k + ", " + what + ")", house.slot(i, k, what), model.slot(i, k, what));
                }
            }
        }
        for (int k = -1; k <= model.count(2); k++) {
            for (int what = -1; what <= 2; what++) {
                same(seed, text, "stat(" + k + ", " + what + ")", house.stat(k, what), model.stat(k, what));
            }
        }
    }

    private static void same(long seed, String text, String call, int got, int want) {
        if (got != want && told++ < 3) {
            System.out.println("seed " + seed + ", behind the text:\n" + text);
        }
        Bench.due("seed " + seed + ": " + call, got, want);
    }
}
