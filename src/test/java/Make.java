/** Machines for the tests. */
final class Make {
    private Make() { }

    /** A number of a WORD; no digits are the empty one. */
    static int number(String word) {
        return word.isEmpty() ? 0 : Integer.parseInt(word);
    }

    /**
     * A new machine as a text tells it: ">0" is a BEGINNING STATE, "1/23" has the END 23, "0-1:45-2" is an ARC from 0
     * that reads 1, writes 45 and leads to 2. Answers how many calls were made.
     */
    static int machine(TransducerBench x, int t, int states, String told) {
        int calls = 1;
        boolean done = x.machine(t, states);
        for (String part : told.trim().split(" +")) {
            if (part.isEmpty()) {
                continue;
            }
            calls++;
            String[] words = part.split("[-:]", -1);
            if (part.startsWith(">")) {
                done &= x.begins(t, Integer.parseInt(part.substring(1)), true);
            } else if (words.length == 1) {
                done &= x.ends(t, part.charAt(0) - '0', number(part.substring(2)));
            } else {
                done &= x.arc(t, number(words[0]), number(words[1]), number(words[3]), number(words[2])) > 0;
            }
        }
        if (!done) {
            throw new IllegalArgumentException(told);
        }
        return calls;
    }

    /** One STATE that writes a WORD for each letter it reads. */
    static void oneState(TransducerBench x, int t, int end, int... words) {
        x.machine(t, 1);
        x.begins(t, 0, true);
        x.ends(t, 0, end);
        for (int k = 0; k < words.length; k++) {
            x.arc(t, 0, k + 1, 0, words[k]);
        }
    }

    /** Reads 1s; a 2 or a 3 behind them tells whether each of them is an 8 or a 9. */
    static void guess(TransducerBench x, int t) {
        machine(x, t, 4, ">0 >1 0-1:8-0 1-1:9-1 0-2:-2 1-3:-2 2/");
    }

    /** Five tokens with WORDS of their own, moved about by 1 and 2; the one on STATE 0 is written. */
    static void tokens(TransducerBench x, int t) {
        int[] words = {1, 2, 3, 4, 5};
        x.machine(t, 6);
        x.begins(t, 5, true);
        x.ends(t, 0, 0);
        for (int q = 0; q < 5; q++) {
            x.arc(t, 5, 3, q, words[q]);
            x.arc(t, q, 1, (q + 1) % 5, 0);
            x.arc(t, q, 2, q < 2 ? 1 - q : q, 0);
        }
    }

    /** Six STATES, all BEGINNING, all with an END, and thirty ARCS. */
    static void full(TransducerBench x, int t) {
        x.machine(t, 6);
        for (int q = 0; q < 6; q++) {
            x.begins(t, q, true);
            x.ends(t, q, 9);
            for (int k = 0; k < 5; k++) {
                x.arc(t, q, 1 + k % 3, (q + k) % 6, 1 + k);
            }
        }
    }
}
