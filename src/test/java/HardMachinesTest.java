/** Machines that were searched for: long WITNESSES and counts at their bounds, each compared with OracleBench too. */
final class HardMachinesTest {
    private static final Check CHECK = new Check();

    private final TransducerBench bench = new TransducerBench();
    private final OracleBench oracle = new OracleBench();

    public static void main(String[] args) {
        new HardMachinesTest().longFunctional();
        new HardMachinesTest().longReaders();
        new HardMachinesTest().longSame();
        new HardMachinesTest().thousandPairs();
        new HardMachinesTest().hundredSets();
        new HardMachinesTest().delaysUpToTheBound();
        new HardMachinesTest().tooLongAndTooMany();
        CHECK.finish("HardMachinesTest");
    }

    /** Arcs: from, letter, to, word, one behind the other. */
    private void load(int t, int beginning, int[] ends, int... arcs) {
        bench.machine(t, 6);
        oracle.machine(t, 6);
        for (int q = 0; q < 6; q++) {
            bench.begins(t, q, (beginning >> q & 1) != 0);
            oracle.begins(t, q, (beginning >> q & 1) != 0);
            bench.ends(t, q, ends[q]);
            oracle.ends(t, q, ends[q]);
        }
        for (int i = 0; i < arcs.length; i += 4) {
            CHECK.due("arc", bench.arc(t, arcs[i], arcs[i + 1], arcs[i + 2], arcs[i + 3]),
                    oracle.arc(t, arcs[i], arcs[i + 1], arcs[i + 2], arcs[i + 3]));
        }
    }

    private void dueWitness(int length) {
        CHECK.due("witness inside", bench.witness(length - 1) > 0, true);
        CHECK.due("witness behind", bench.witness(length), -1);
        for (int k = -1; k <= 140; k++) {
            CHECK.due("witness", bench.witness(k), oracle.witness(k));
        }
        for (int k = -1; k <= 400; k++) {
            for (int which = 0; which < 2; which++) {
                CHECK.due("wrote", bench.wrote(which, k), oracle.wrote(which, k));
            }
        }
    }

    private void dueTold() {
        for (int what = 0; what < 5; what++) {
            CHECK.due("told", bench.told(what), oracle.told(what));
        }
        for (int q = -1; q <= bench.told(3); q++) {
            for (int letter = 0; letter <= 3; letter++) {
                CHECK.due("goes", bench.goes(q, letter), oracle.goes(q, letter));
                for (int k = -1; k < 130; k++) {
                    CHECK.due("writes", bench.writes(q, letter, k), oracle.writes(q, letter, k));
                }
            }
        }
    }

    private void longFunctional() {
        load(0, 16, new int[] {-1, -1, -1, -1, 1, -1}, 3, 1, 5, 222, 1, 1, 2, 0, 4, 1, 0, 0, 2, 1, 4, 0, 2, 1, 0, 0,
                5, 1, 1, 0, 0, 1, 3, 0, 5, 2, 1, 22);
        CHECK.due("functional", bench.functional(0), 0);
        oracle.functional(0);
        dueWitness(36);
    }

    private void longReaders() {
        load(0, 59, new int[] {0, -1, 0, -1, 0, -1}, 1, 1, 2, 0, 4, 3, 4, 0, 0, 1, 4, 0, 2, 2, 0, 0, 4, 2, 1, 0,
                5, 1, 1, 0, 2, 1, 1, 0, 5, 1, 0, 0, 5, 1, 5, 0, 1, 2, 3, 0, 0, 1, 3, 0, 4, 1, 0, 0, 5, 3, 4, 0,
                4, 3, 2, 0, 2, 2, 2, 0, 0, 2, 4, 0, 4, 1, 5, 0, 5, 2, 0, 0, 0, 2, 3, 0, 3, 1, 1, 0, 4, 2, 2, 0,
                5, 3, 2, 0, 3, 2, 1, 0, 1, 3, 1, 0, 3, 1, 4, 0, 0, 3, 4, 0, 4, 2, 0, 0, 3, 1, 5, 0, 4, 3, 4, 0);
        load(1, 63, new int[] {0, 0, 0, 0, 0, 0}, 4, 3, 1, 0, 3, 3, 0, 0, 4, 1, 1, 0, 0, 1, 4, 0, 1, 1, 3, 0,
                4, 3, 4, 0, 0, 3, 2, 0, 4, 3, 0, 0, 3, 2, 4, 0, 5, 2, 5, 0, 1, 1, 2, 0, 1, 2, 2, 0, 2, 2, 4, 0,
                5, 2, 2, 0, 5, 1, 0, 0, 4, 2, 3, 0, 0, 2, 5, 0, 5, 2, 0, 0, 1, 3, 3, 0, 2, 1, 5, 0, 0, 2, 0, 0,
                2, 3, 5, 0, 3, 3, 2, 0, 2, 3, 1, 0, 2, 3, 0, 0, 3, 1, 3, 0, 2, 2, 0, 0);
        CHECK.due("readers", bench.readers(), 0);
        oracle.readers();
        dueWitness(41);
        CHECK.due("same", bench.same(), oracle.same());
        dueWitness(41);
    }

    private void longSame() {
        load(0, 32, new int[] {0, -1, -1, -1, -1, -1}, 1, 2, 1, 1, 1, 3, 3, 2, 3, 2, 4, 2, 4, 1, 2, 22, 2, 2, 0, 2,
                0, 1, 4, 22, 5, 3, 1, 22, 0, 1, 0, 0, 3, 1, 5, 2, 0, 2, 5, 1);
        load(1, 32, new int[] {0, -1, -1, -1, -1, -1}, 1, 2, 1, 1, 1, 3, 3, 2, 3, 2, 4, 2, 4, 1, 2, 22, 2, 2, 0, 2,
                0, 1, 4, 22, 5, 3, 1, 22, 0, 1, 0, 0, 3, 1, 5, 2, 0, 2, 5, 2);
        CHECK.due("same", bench.same(), 0);
        oracle.same();
        dueWitness(11);
    }

    private void thousandPairs() {
        int[] ends = {-1, -1, -1, -1, -1, 0};
        int[] arcs = {0, 3, 3, 21, 3, 3, 1, 0, 0, 2, 4, 0, 3, 2, 3, 2, 2, 3, 0, 1, 0, 1, 0, 21, 2, 1, 3, 111,
            2, 2, 0, 211, 1, 1, 4, 111, 5, 3, 4, 112, 1, 1, 2, 21, 1, 1, 3, 1, 1, 1, 5, 1, 5, 1, 2, 2, 1, 3, 4, 211,
            4, 2, 1, 11, 2, 1, 4, 222};
        load(0, 61, ends, arcs);
        CHECK.due("sequential", bench.sequential(0), oracle.sequential(0));
        CHECK.due("a thousand pairs", bench.told(1), 1000);
        CHECK.due("are not too many", bench.told(2), 101);
        dueTold();
    }

    private void hundredSets() {
        int[] ends = {0, -1, -1, -1, -1, -1};
        load(0, 32, ends, 5, 3, 0, 1, 5, 3, 1, 2, 5, 3, 2, 3, 5, 3, 3, 4, 5, 3, 4, 5, 0, 1, 4, 0, 1, 1, 1, 0, 2, 1, 3, 0,
                3, 1, 2, 0, 4, 1, 0, 0, 0, 2, 2, 0, 1, 2, 0, 0, 2, 2, 1, 0, 4, 2, 3, 0, 0, 3, 0, 0, 1, 3, 1, 0,
                2, 3, 2, 0, 3, 3, 3, 0, 4, 3, 4, 0);
        CHECK.due("a hundred SETS", bench.sequential(0), 1);
        oracle.sequential(0);
        CHECK.due("told", bench.told(2), 100);
        CHECK.due("a hundred STATES", bench.told(3), 100);
        dueTold();
        load(1, 16, ends, 4, 3, 0, 1, 4, 3, 1, 2, 4, 3, 2, 3, 4, 3, 3, 4, 0, 1, 1, 0, 1, 1, 2, 0, 2, 1, 3, 0, 3, 1, 0, 0,
                0, 2, 0, 0, 1, 2, 3, 0, 2, 2, 1, 0, 3, 2, 2, 0, 1, 3, 0, 0, 2, 3, 2, 0);
        CHECK.due("one SET more", bench.sequential(1), 2);
        oracle.sequential(1);
        CHECK.due("told then", bench.told(2), 101);
        dueTold();
    }

    /** The one part writes 333333 in rounds, the other one 3s too: their DELAYS grow to the bound and beyond. */
    private void delaysUpToTheBound() {
        load(0, 3, new int[] {-1, -1, -1, -1, 0, 0}, 0, 1, 2, 333, 2, 1, 0, 333, 1, 1, 3, 0, 3, 1, 1, 0,
                0, 2, 4, 0, 1, 3, 5, 0);
        CHECK.due("sequential", bench.sequential(0), 0);
        oracle.sequential(0);
        CHECK.due("levels of at most 108 letters, and one more", bench.told(0), 38);
        dueTold();
    }

    /** At one level a thousand pairs are passed, and behind them a DELAY is too long: that goes ahead. */
    private void tooLongAndTooMany() {
        load(0, 30, new int[] {-1, -1, 2, -1, -1, -1}, 2, 1, 3, 2, 5, 3, 2, 111, 4, 2, 0, 2, 5, 3, 4, 1, 3, 1, 2, 1,
                3, 2, 1, 0, 2, 2, 5, 1, 5, 3, 5, 1, 0, 2, 2, 111, 1, 1, 0, 0, 4, 1, 4, 12);
        CHECK.due("not SEQUENTIAL", bench.sequential(0), 0);
        oracle.sequential(0);
        CHECK.due("too many", bench.told(1), 1001);
        CHECK.due("levels", bench.told(0), 56);
        dueTold();
    }
}
