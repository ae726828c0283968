/** Runs of calls on made-up machines, each answer compared with OracleBench; the numbers come from a fixed row. */
final class OracleTest {
    private static final int RUNS = 3000;
    private static final Check CHECK = new Check();

    private final TransducerBench bench = new TransducerBench();
    private final OracleBench oracle = new OracleBench();
    private final int run;
    private long seed;
    private static final int[] SEEN = new int[16];

    private OracleTest(int run) {
        this.run = run;
        seed = run * 2654435761L + 12345;
    }

    public static void main(String[] args) {
        int runs = args.length > 0 ? Integer.parseInt(args[0]) : RUNS;
        int start = args.length > 1 ? Integer.parseInt(args[1]) : 0;
        int hard = 0;
        for (int run = start; run < start + runs && CHECK.wrong() == 0; run++) {
            try {
                new OracleTest(run).go();
            } catch (OracleBench.TooHard e) {
                hard++;
            }
        }
        System.out.println("runs given up by the oracle: " + hard);
        System.out.println("functional 0: " + SEEN[0] + ", 1: " + SEEN[1] + "; readers 0: " + SEEN[2] + ", 1: " + SEEN[3]
                + "; same 0: " + SEEN[4] + ", 1: " + SEEN[5] + "; sequential 0: " + SEEN[6] + ", 1: " + SEEN[7]
                + ", 2 by TWINS: " + SEEN[8] + ", 2 by SETS: " + SEEN[9] + "; taken: " + SEEN[10]
                + "; longest WITNESS: " + SEEN[11] + "; most STATES: " + SEEN[12]
                + "; most SETS: " + SEEN[13] + "; most pairs: " + SEEN[14]);
        CHECK.finish("OracleTest");
    }

    private int pick(int below) {
        seed = seed * 6364136223846793005L + 1442695040888963407L;
        return (int) ((seed >>> 33) % below);
    }

    private void due(String call, int got, int want) {
        CHECK.due("run " + run + ": " + call, got, want);
    }

    private static int bit(boolean is) {
        return is ? 1 : 0;
    }

    private void go() {
        for (int round = 0; round < 4; round++) {
            for (int t = 0; t < 2; t++) {
                if (round == 0 || pick(2) == 0) {
                    make(t);
                }
            }
            tell();
        }
    }

    // Machines

    private void make(int t) {
        switch (pick(9)) {
            case 0 -> makeAny(t, pick(7), pick(13), 3);
            case 1 -> makeByLetter(t, 1 + pick(6), pick(20));
            case 2 -> makeDeterministic(t, 1 + pick(6));
            case 3 -> makeByHeights(t, 2 + pick(5), 5 + pick(26), 1 + pick(3));
            case 4 -> makeGuess(t);
            case 5 -> makeChanged(t);
            case 6 -> makeTokens(t);
            case 7 -> makeCycles(t);
            default -> makeAny(t, 1 + pick(3), pick(6), 1 + pick(2));
        }
    }

    private int word(int most, int letters) {
        int word = 0;
        for (int k = pick(most + 1); k > 0; k--) {
            word = word * 10 + 1 + pick(letters);
        }
        return word;
    }

    private void newMachine(int t, int n) {
        due("machine", bit(bench.machine(t, n)), bit(oracle.machine(t, n)));
    }

    private void begins(int t, int q, boolean is) {
        due("begins", bit(bench.begins(t, q, is)), bit(oracle.begins(t, q, is)));
    }

    private void ends(int t, int q, int word) {
        due("ends", bit(bench.ends(t, q, word)), bit(oracle.ends(t, q, word)));
    }

    private void arc(int t, int from, int letter, int to, int word) {
        due("arc", bench.arc(t, from, letter, to, word), oracle.arc(t, from, letter, to, word));
    }

    private void makeAny(int t, int n, int arcs, int most) {
        newMachine(t, n);
        for (int q = 0; q < n; q++) {
            begins(t, q, q == 0 || pick(4) == 0);
            ends(t, q, pick(3) == 0 ? word(most, 2) : -1);
        }
        for (int a = 0; n > 0 && a < arcs; a++) {
            arc(t, pick(n), 1 + pick(3), pick(n), word(most, 2));
        }
    }

    private void makeByLetter(int t, int n, int arcs) {
        newMachine(t, n);
        int[] words = {word(3, 9), word(3, 9), word(3, 9)};
        for (int q = 0; q < n; q++) {
            begins(t, q, q == 0 || pick(4) == 0);
            ends(t, q, pick(3) == 0 ? 0 : -1);
        }
        for (int a = 0; a < arcs; a++) {
            int letter = 1 + pick(3);
            arc(t, pick(n), letter, pick(n), words[letter - 1]);
        }
    }

    private void makeDeterministic(int t, int n) {
        newMachine(t, n);
        begins(t, pick(n), true);
        for (int q = 0; q < n; q++) {
            ends(t, q, pick(2) == 0 ? word(3, 2) : -1);
            for (int letter = 1; letter <= 3; letter++) {
                if (pick(4) > 0) {
                    arc(t, q, letter, pick(n), word(3, 2));
                }
            }
        }
    }

    /** One output letter; what an ARC writes is told by the heights of its STATES: always FUNCTIONAL. */
    private void makeByHeights(int t, int n, int arcs, int most) {
        newMachine(t, n);
        int[] heights = new int[n];
        int[] ones = {0, 1, 11, 111};
        int[] base = {pick(3), pick(3), pick(3)};
        for (int q = 0; q < n; q++) {
            heights[q] = pick(most + 1);
            begins(t, q, heights[q] == 0 && pick(2) == 0);
            ends(t, q, pick(2) == 0 ? ones[3 - heights[q]] : -1);
        }
        for (int a = 0; a < arcs; a++) {
            int from = pick(n);
            int to = pick(n);
            int letter = 1 + pick(3);
            int length = base[letter - 1] + heights[to] - heights[from];
            if (length >= 0 && length <= 3) {
                arc(t, from, letter, to, ones[length]);
            }
        }
    }

    /** Two parts read the same at first; a last letter tells which one was right. */
    private void makeGuess(int t) {
        newMachine(t, 6);
        int letters = 1 + pick(2);
        for (int part = 0; part < 2; part++) {
            begins(t, part * 3, true);
            ends(t, part * 3 + 2, word(2, 2));
            for (int q = part * 3; q < part * 3 + 2; q++) {
                for (int letter = 1; letter <= letters; letter++) {
                    if (pick(4) > 0) {
                        arc(t, q, letter, part * 3 + pick(2), word(3, 1 + pick(2)));
                    }
                }
                if (pick(3) > 0) {
                    arc(t, q, letters == 1 ? 2 + part : 3, part * 3 + 2, word(3, 2));
                }
            }
        }
    }

    /** Tokens with WORDS of their own are moved about, at most one to a place; the one on the END's STATE is written. */
    private void makeTokens(int t) {
        newMachine(t, 6);
        int places = 3 + pick(3);
        int most = pick(3);
        begins(t, 5, true);
        ends(t, 0, word(1, 9));
        for (int q = 0; q < places; q++) {
            arc(t, 5, 3, q, most == 0 ? q + 1 : word(most, 3));
        }
        for (int letter = 1; letter <= 3; letter++) {
            int[] goals = {0, 1, 2, 3, 4};
            for (int i = places - 1; i > 0 && letter < 3; i--) {
                int j = pick(3) == 0 ? i : pick(i + 1);
                int goal = goals[i];
                goals[i] = goals[j];
                goals[j] = goal;
            }
            for (int q = 0; q < places && (letter < 3 || places == 3); q++) {
                if (pick(12) > 0) {
                    arc(t, q, letter, goals[q], 0);
                }
            }
        }
    }

    /** Two rounds of other lengths: what they write is told apart late. */
    private void makeCycles(int t) {
        newMachine(t, 6);
        int first = 1 + pick(5);
        int letter = 1 + pick(3);
        int label = word(2, 2);
        begins(t, 0, true);
        begins(t, first, true);
        for (int q = 0; q < 6; q++) {
            int to = q == first - 1 ? 0 : q == 5 ? first : q + 1;
            arc(t, q, letter, to, label);
            if (pick(6) == 0) {
                arc(t, q, 1 + pick(3), pick(6), word(3, 2));
            }
        }
        ends(t, first - 1, word(2, 2));
        ends(t, 5, word(2, 2));
    }

    private void makeChanged(int t) {
        due("copy", bit(bench.copy(t)), bit(oracle.copy(t)));
        int n = bench.size(t, 0);
        if (n == 0) {
            return;
        }
        switch (pick(4)) {
            case 0 -> arc(t, pick(n), 1 + pick(3), pick(n), word(3, 2));
            case 1 -> ends(t, pick(n), word(3, 2));
            case 2 -> begins(t, pick(n), pick(2) == 0);
            default -> { }
        }
    }

    // Questions

    private void tell() {
        for (int t = -1; t <= 2; t++) {
            for (int what = -1; what <= 3; what++) {
                due("size", bench.size(t, what), oracle.size(t, what));
            }
            for (int q = -1; q <= 6; q++) {
                due("useful", bench.useful(t, q), oracle.useful(t, q));
            }
        }
        for (int k = 0; k < 6; k++) {
            tellOutputs(pick(2), word(1 + pick(9), 3));
        }
        for (int t = 0; t < 2; t++) {
            int functional = bench.functional(t);
            due("functional", functional, oracle.functional(t));
            SEEN[functional]++;
            tellWitness();
        }
        int readers = bench.readers();
        due("readers", readers, oracle.readers());
        SEEN[2 + readers]++;
        tellWitness();
        int same = bench.same();
        due("same", same, oracle.same());
        if (same >= 0) {
            SEEN[4 + same]++;
        }
        tellWitness();
        int t = pick(2);
        int sequential = bench.sequential(t);
        due("sequential", sequential, oracle.sequential(t));
        if (sequential >= 0) {
            SEEN[sequential == 2 && bench.told(2) == 101 ? 9 : 6 + sequential]++;
            SEEN[12] = Math.max(SEEN[12], bench.told(3));
            SEEN[13] = Math.max(SEEN[13], sequential == 1 ? bench.told(2) : 0);
            SEEN[14] = Math.max(SEEN[14], sequential == 1 ? bench.told(1) : 0);
        }
        tellWitness();
        tellLeast();
        if (pick(3) == 0) {
            int into = pick(2);
            boolean taken = bench.take(into);
            due("take", bit(taken), bit(oracle.take(into)));
            SEEN[10] += bit(taken);
        }
    }

    private void tellOutputs(int t, int word) {
        due("apply " + word, bench.apply(t, word), oracle.apply(t, word));
        for (int i = -1; i <= 61; i++) {
            for (int k = -1; k <= 31; k++) {
                due("output " + word, bench.output(i, k), oracle.output(i, k));
            }
        }
    }

    private void tellWitness() {
        for (int k = -1; k <= 140; k++) {
            due("witness", bench.witness(k), oracle.witness(k));
            if (bench.witness(k) > 0) {
                SEEN[11] = Math.max(SEEN[11], k + 1);
            }
        }
        for (int k = -1; k <= 400; k++) {
            for (int which = -1; which <= 2; which++) {
                due("wrote", bench.wrote(which, k), oracle.wrote(which, k));
            }
        }
    }

    private void tellLeast() {
        for (int what = -1; what <= 5; what++) {
            due("told " + what, bench.told(what), oracle.told(what));
        }
        int states = Math.max(0, bench.told(3));
        for (int q = -2; q <= states; q++) {
            for (int letter = -1; letter <= 4; letter++) {
                due("goes", bench.goes(q, letter), oracle.goes(q, letter));
                for (int k = -1; k < 30; k++) {
                    due("writes", bench.writes(q, letter, k), oracle.writes(q, letter, k));
                }
            }
        }
        for (int i = 0; i < 5; i++) {
            int word = word(1 + pick(9), 3);
            due("act", bench.act(word), oracle.act(word));
            for (int k = -1; k <= 31; k++) {
                due("acted", bench.acted(k), oracle.acted(k));
            }
        }
    }
}
