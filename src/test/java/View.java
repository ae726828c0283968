/** What a bench answers, as texts: "none" is a WORD that is not there. */
final class View {
    private View() { }

    static String output(TransducerBench x, int i) {
        StringBuilder word = new StringBuilder();
        for (int k = 0; x.output(i, k) > 0; k++) {
            word.append(x.output(i, k));
        }
        return x.output(i, -1) == -2 ? "none" : word.toString();
    }

    /** The OUTPUTS of an input WORD, one behind the other. */
    static String outputs(TransducerBench x, int t, int word) {
        StringBuilder all = new StringBuilder();
        int count = x.apply(t, word);
        for (int i = 0; i < count; i++) {
            all.append(i == 0 ? "" : " ").append('<').append(output(x, i)).append('>');
        }
        return count < 0 ? "answer " + count : all.toString();
    }

    static String witness(TransducerBench x) {
        StringBuilder word = new StringBuilder();
        for (int k = 0; x.witness(k) > 0; k++) {
            word.append(x.witness(k));
        }
        return x.witness(-1) == -2 ? "none" : word.toString();
    }

    static String wrote(TransducerBench x, int which) {
        StringBuilder word = new StringBuilder();
        for (int k = 0; x.wrote(which, k) > 0; k++) {
            word.append(x.wrote(which, k));
        }
        return x.wrote(which, -1) == -2 ? "none" : word.toString();
    }

    /** The WITNESS and its two outputs. */
    static String shown(TransducerBench x) {
        return witness(x) + ": " + wrote(x, 0) + ", " + wrote(x, 1);
    }

    static String writes(TransducerBench x, int q, int letter) {
        StringBuilder word = new StringBuilder();
        for (int k = 0; x.writes(q, letter, k) > 0; k++) {
            word.append(x.writes(q, letter, k));
        }
        return x.writes(q, letter, -1) == -2 ? "none" : word.toString();
    }

    static String acted(TransducerBench x) {
        StringBuilder word = new StringBuilder();
        for (int k = 0; x.acted(k) > 0; k++) {
            word.append(x.acted(k));
        }
        return word.toString();
    }

    static String act(TransducerBench x, int word) {
        return x.act(word) < 0 ? "none" : acted(x);
    }

    static String told(TransducerBench x) {
        StringBuilder all = new StringBuilder();
        for (int what = 0; what <= 4; what++) {
            all.append(what == 0 ? "" : " ").append(x.told(what));
        }
        return all.toString();
    }

    /** The LEAST machine in Make's notation, its BEGIN WORD first; what isn't there is left out. */
    static String least(TransducerBench x) {
        StringBuilder all = new StringBuilder(writes(x, TransducerBench.NONE, 0));
        for (int q = 0; q < x.told(3); q++) {
            String end = writes(x, q, 0);
            all.append(end.equals("none") ? "" : " " + q + "/" + end);
            for (int letter = 1; letter <= 3; letter++) {
                if (x.goes(q, letter) >= 0) {
                    all.append(' ').append(q).append('-').append(letter).append(':').append(writes(x, q, letter));
                    all.append('-').append(x.goes(q, letter));
                }
            }
        }
        return all.toString();
    }

    /** All that can be read without a call that changes anything; not too much of it, for 512 calls are all there are. */
    static String everything(TransducerBench x) {
        StringBuilder all = new StringBuilder();
        for (int t = 0; t < 2; t++) {
            all.append("size");
            for (int what = 0; what <= 2; what++) {
                all.append(' ').append(x.size(t, what));
            }
            all.append(" useful");
            for (int q = 0; q < 6; q++) {
                all.append(' ').append(x.useful(t, q));
            }
        }
        for (int i = 0; i < 4; i++) {
            all.append(" output ").append(output(x, i));
        }
        all.append(" shown ").append(shown(x)).append(" acted ").append(acted(x));
        return all.append(" told ").append(told(x)).append(" least ").append(least(x)).toString();
    }

    /** What the two machines make of the shortest WORDS: that changes the OUTPUTS. */
    static String machines(TransducerBench x) {
        int[] words = {0, 1, 2, 3, 11, 12, 23, 31};
        StringBuilder all = new StringBuilder();
        for (int t = 0; t < 2; t++) {
            for (int word : words) {
                all.append(outputs(x, t, word)).append(' ');
            }
        }
        return all.toString();
    }
}
