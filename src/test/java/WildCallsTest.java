/** Runs of 512 calls in any order, with any numbers, wrong ones too: each answer is as OracleBench's, and none throws. */
final class WildCallsTest {
    private static final int RUNS = 1500;
    private static final int CALLS = 512;
    private static final int[] EDGES = {Integer.MIN_VALUE, Integer.MIN_VALUE + 1, -1000, -3, -2, -1, 0, 1, 2, 3, 4, 5, 6, 7,
        9, 10, 11, 30, 31, 60, 61, 100, 101, 999, 1000, 1111, 333333333, 333333334, 1111111111, Integer.MAX_VALUE};
    private static final Check CHECK = new Check();

    private final TransducerBench bench = new TransducerBench();
    private final OracleBench oracle = new OracleBench();
    private final int run;
    private long seed;

    private WildCallsTest(int run) {
        this.run = run;
        seed = run * 40503L + 7;
    }

    public static void main(String[] args) {
        int runs = args.length > 0 ? Integer.parseInt(args[0]) : RUNS;
        int start = args.length > 1 ? Integer.parseInt(args[1]) : 0;
        int hard = 0;
        for (int run = start; run < start + runs && CHECK.wrong() == 0; run++) {
            try {
                new WildCallsTest(run).go();
            } catch (OracleBench.TooHard e) {
                hard++;
            }
        }
        System.out.println("runs given up by the oracle: " + hard);
        CHECK.finish("WildCallsTest");
    }

    private int pick(int below) {
        seed = seed * 6364136223846793005L + 1442695040888963407L;
        return (int) ((seed >>> 33) % below);
    }

    /** Mostly a number below a bound, now and then any. */
    private int number(int below) {
        return pick(40) == 0 ? EDGES[pick(EDGES.length)] : pick(below);
    }

    private int word(int most, int letters) {
        int word = 0;
        for (int k = pick(most + 1); k > 0; k--) {
            word = word * 10 + 1 + pick(letters);
        }
        return pick(30) == 0 ? EDGES[pick(EDGES.length)] : word;
    }

    private void due(String call, int got, int want) {
        CHECK.due("run " + run + ": " + call, got, want);
    }

    private static int bit(boolean is) {
        return is ? 1 : 0;
    }

    private void go() {
        int letters = 1 + pick(3);
        int states = 1 + pick(6);
        for (int t = 0; t < 2; t++) {
            due("machine", bit(bench.machine(t, states)), bit(oracle.machine(t, states)));
        }
        for (int i = 2; i < CALLS; i++) {
            if (pick(3) == 0) {
                change(states, letters);
            } else if (pick(3) == 0) {
                ask();
            } else {
                read();
            }
        }
    }

    private void change(int states, int letters) {
        int t = number(2);
        int q = number(states);
        switch (pick(12)) {
            case 0 -> {
                if (pick(3) == 0) {
                    due("machine", bit(bench.machine(t, q + 1)), bit(oracle.machine(t, q + 1)));
                }
            }
            case 1, 2 -> {
                boolean is = pick(3) > 0;
                due("begins", bit(bench.begins(t, q, is)), bit(oracle.begins(t, q, is)));
            }
            case 3, 4 -> {
                int word = pick(4) == 0 ? -1 : word(3, letters);
                due("ends", bit(bench.ends(t, q, word)), bit(oracle.ends(t, q, word)));
            }
            case 5 -> {
                if (pick(4) == 0) {
                    due("copy", bit(bench.copy(t)), bit(oracle.copy(t)));
                }
            }
            case 6 -> due("take", bit(bench.take(t)), bit(oracle.take(t)));
            default -> {
                int letter = number(3) + (pick(30) > 0 ? 1 : 0);
                int to = number(states);
                int word = word(3, letters);
                due("arc", bench.arc(t, q, letter, to, word), oracle.arc(t, q, letter, to, word));
            }
        }
    }

    private void ask() {
        int t = number(2);
        int word = word(9, 3);
        switch (pick(6)) {
            case 0 -> due("apply", bench.apply(t, word), oracle.apply(t, word));
            case 1 -> due("functional", bench.functional(t), oracle.functional(t));
            case 2 -> due("readers", bench.readers(), oracle.readers());
            case 3 -> due("same", bench.same(), oracle.same());
            case 4 -> due("sequential", bench.sequential(t), oracle.sequential(t));
            default -> due("act", bench.act(word), oracle.act(word));
        }
    }

    private void read() {
        int t = number(2);
        int q = number(6) - pick(2);
        int k = number(8);
        int letter = number(4);
        switch (pick(9)) {
            case 0 -> due("size", bench.size(t, letter), oracle.size(t, letter));
            case 1 -> due("useful", bench.useful(t, q), oracle.useful(t, q));
            case 2 -> due("output", bench.output(q, k), oracle.output(q, k));
            case 3 -> due("witness", bench.witness(k), oracle.witness(k));
            case 4 -> due("wrote", bench.wrote(t, k), oracle.wrote(t, k));
            case 5 -> due("told", bench.told(k), oracle.told(k));
            case 6 -> due("goes", bench.goes(q, letter), oracle.goes(q, letter));
            case 7 -> due("writes", bench.writes(q, letter, k), oracle.writes(q, letter, k));
            default -> due("acted", bench.acted(k), oracle.acted(k));
        }
    }
}
