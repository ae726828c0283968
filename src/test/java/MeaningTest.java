import java.util.ArrayList;
import java.util.Comparator;
import java.util.HashMap;
import java.util.HashSet;
import java.util.List;
import java.util.Map;
import java.util.Set;
import java.util.TreeMap;
import java.util.TreeSet;

/**
 * Small machines, of which each WORD of at most seven letters is followed on all its WAYS: what the Terms mean, looked
 * up in the OUTPUTS themselves and not by any way of deciding it. The numbers come from a fixed row.
 */
final class MeaningTest {
    private static final int RUNS = 500;
    private static final int LONGEST = 7;
    private static final int MOST_CALLS = 512;
    private static final Comparator<String> WORDS =
            Comparator.comparingInt(String::length).thenComparing(Comparator.naturalOrder());
    private static final Check CHECK = new Check();
    private static final int[] SEEN = new int[10];

    private record Arc(int from, int letter, int to, String word) { }

    private record Place(int state, String text) { }

    /** A machine and, by its input WORD, what each WORD with an output has for OUTPUTS. */
    private static final class Told {
        int states;
        final Set<Integer> beginning = new TreeSet<>();
        final Map<Integer, String> ends = new TreeMap<>();
        final List<Arc> arcs = new ArrayList<>();
        final TreeMap<String, TreeSet<String>> outputs = new TreeMap<>(WORDS);
        final Set<Integer> passed = new HashSet<>();

        void follow() {
            outputs.clear();
            passed.clear();
            for (int q : beginning) {
                follow("", q, "", new ArrayList<>(List.of(q)));
            }
        }

        private void follow(String read, int at, String text, List<Integer> way) {
            if (ends.containsKey(at)) {
                outputs.computeIfAbsent(read, word -> new TreeSet<>(WORDS)).add(text + ends.get(at));
                passed.addAll(way);
            }
            for (Arc arc : arcs) {
                if (arc.from == at && read.length() < LONGEST) {
                    way.add(arc.to);
                    follow(read + arc.letter, arc.to, text + arc.word, way);
                    way.remove(way.size() - 1);
                }
            }
        }

        void make(TransducerBench x, int t) {
            x.machine(t, states);
            for (int q : beginning) {
                x.begins(t, q, true);
            }
            for (int q : ends.keySet()) {
                x.ends(t, q, Make.number(ends.get(q)));
            }
            for (Arc arc : arcs) {
                x.arc(t, arc.from, arc.letter, arc.to, Make.number(arc.word));
            }
        }

        TreeSet<String> of(String word) {
            return outputs.getOrDefault(word, new TreeSet<>(WORDS));
        }

        String leastWithTwo() {
            for (String word : outputs.keySet()) {
                if (of(word).size() > 1) {
                    return word;
                }
            }
            return null;
        }
    }

    private final int run;
    private long seed;
    private final Told[] machines = {new Told(), new Told()};
    private TransducerBench bench;
    private int calls;

    private MeaningTest(int run) {
        this.run = run;
        seed = run * 7919L + 17;
    }

    public static void main(String[] args) {
        int runs = args.length > 0 ? Integer.parseInt(args[0]) : RUNS;
        int start = args.length > 1 ? Integer.parseInt(args[1]) : 0;
        for (int run = start; run < start + runs && CHECK.wrong() == 0; run++) {
            new MeaningTest(run).go();
        }
        System.out.println("functional 0: " + SEEN[0] + ", 1: " + SEEN[1] + "; readers 0: " + SEEN[2] + ", 1: " + SEEN[3]
                + "; same 0: " + SEEN[4] + ", 1: " + SEEN[5] + "; LEAST machines of 0 to 3 STATES: " + SEEN[6] + ", "
                + SEEN[7] + ", " + SEEN[8] + ", " + SEEN[9]);
        CHECK.finish("MeaningTest");
    }

    private int pick(int below) {
        seed = seed * 6364136223846793005L + 1442695040888963407L;
        return (int) ((seed >>> 33) % below);
    }

    private void due(String call, int got, int want) {
        CHECK.due("run " + run + ": " + call, got, want);
    }

    private void due(String call, String got, String want) {
        CHECK.due("run " + run + ": " + call, got, want);
    }

    private void go() {
        draw(machines[0], 1 + pick(3), pick(8));
        if (pick(3) == 0) {
            draw(machines[1], 1 + pick(3), pick(6));
        } else {
            change();
        }
        for (Told machine : machines) {
            machine.follow();
        }
        renew();
        tellStates();
        tellOutputs(0);
        tellFunctional(0);
        tellFunctional(1);
        tellReaders();
        tellSame();
        tellLeast();
    }

    // Machines

    private void draw(Told machine, int states, int arcs) {
        machine.states = states;
        machine.beginning.add(pick(states));
        for (int q = 0; q < states; q++) {
            if (pick(4) == 0) {
                machine.beginning.add(q);
            }
            if (pick(2) == 0) {
                machine.ends.put(q, word(2, 2));
            }
        }
        boolean once = pick(3) > 0;
        for (int a = 0; a < arcs; a++) {
            Arc arc = new Arc(pick(states), 1 + pick(3), pick(states), word(3, 2));
            if (!once || machine.arcs.stream().noneMatch(b -> b.from == arc.from && b.letter == arc.letter)) {
                machine.arcs.add(arc);
            }
        }
    }

    /** The second machine is the first one but for one thing, its STATES the other way round. */
    private void change() {
        Told one = machines[0];
        Told other = machines[1];
        int last = one.states - 1;
        other.states = one.states;
        one.beginning.forEach(q -> other.beginning.add(last - q));
        one.ends.forEach((q, word) -> other.ends.put(last - q, word));
        one.arcs.forEach(arc -> other.arcs.add(new Arc(last - arc.from, arc.letter, last - arc.to, arc.word)));
        switch (pick(4)) {
            case 0 -> other.ends.put(pick(one.states), word(2, 2));
            case 1 -> other.arcs.add(new Arc(pick(one.states), 1 + pick(3), pick(one.states), word(3, 2)));
            case 2 -> other.beginning.add(pick(one.states));
            default -> { }
        }
    }

    private String word(int most, int letters) {
        StringBuilder word = new StringBuilder();
        for (int k = pick(most + 1); k > 0; k--) {
            word.append(1 + pick(letters));
        }
        return word.toString();
    }

    private void renew() {
        bench = new TransducerBench();
        machines[0].make(bench, 0);
        machines[1].make(bench, 1);
        calls = 40;
    }

    /** Whether a new object had to be made, for so many calls more would be beyond what the old one is good for. */
    private boolean renewFor(int more) {
        boolean usedUp = calls + more > MOST_CALLS;
        if (usedUp) {
            renew();
        }
        calls += more;
        return usedUp;
    }

    // Questions

    private void tellStates() {
        for (int t = 0; t < 2; t++) {
            for (int q = 0; q < machines[t].states; q++) {
                due("useful", bench.useful(t, q), machines[t].passed.contains(q) ? 1 : 0);
            }
            due("size 2", bench.size(t, 2), machines[t].passed.size());
            due("size 1", bench.size(t, 1), new HashSet<>(machines[t].arcs).size());
        }
    }

    private void tellOutputs(int t) {
        for (String word : words(3)) {
            StringBuilder all = new StringBuilder();
            for (String output : machines[t].of(word)) {
                all.append(all.length() == 0 ? "" : " ").append('<').append(output).append('>');
            }
            int read = 2 + 3 * machines[t].of(word).size() + 2 * all.length();
            if (read > MOST_CALLS / 2) {
                continue;
            }
            renewFor(read);
            if (bench.apply(t, Make.number(word)) != -2) {
                due("outputs of " + word, View.outputs(bench, t, Make.number(word)), all.toString());
            }
        }
    }

    private static List<String> words(int longest) {
        List<String> all = new ArrayList<>(List.of(""));
        for (int i = 0; i < all.size(); i++) {
            for (int letter = 1; letter <= 3 && all.get(i).length() < longest; letter++) {
                all.add(all.get(i) + letter);
            }
        }
        return all;
    }

    private static String text(String word) {
        return word == null ? "none" : word;
    }

    /** An answer 0 by a longer WORD than can be looked up here is left to the other tests. */
    private boolean isBeyond(int answer, String least) {
        return answer == 0 && least == null && View.witness(bench).length() > LONGEST;
    }

    private void tellFunctional(int t) {
        renew();
        int answer = bench.functional(t);
        String least = machines[t].leastWithTwo();
        if (isBeyond(answer, least)) {
            return;
        }
        due("functional " + t, answer, least == null ? 1 : 0);
        SEEN[answer]++;
        String first = least == null ? null : machines[t].of(least).first();
        String next = least == null ? null : machines[t].of(least).higher(first);
        due("functional " + t, View.shown(bench), text(least) + ": " + text(first) + ", " + text(next));
    }

    private String firstOf(int t, String word) {
        return machines[t].of(word).isEmpty() ? null : machines[t].of(word).first();
    }

    private void tellApart(String call, int answer, String least) {
        if (isBeyond(answer, least)) {
            return;
        }
        due(call, answer, least == null ? 1 : 0);
        String both = least == null ? "none, none" : text(firstOf(0, least)) + ", " + text(firstOf(1, least));
        due(call, View.shown(bench), text(least) + ": " + both);
    }

    private void tellReaders() {
        renew();
        String least = null;
        for (String word : words(LONGEST)) {
            if (least == null && machines[0].of(word).isEmpty() != machines[1].of(word).isEmpty()) {
                least = word;
            }
        }
        int answer = bench.readers();
        SEEN[2 + answer]++;
        tellApart("readers", answer, least);
    }

    private void tellSame() {
        renew();
        int answer = bench.same();
        for (Told machine : machines) {
            if (machine.leastWithTwo() != null) {
                due("same", answer, TransducerBench.NONE);
                return;
            }
        }
        if (answer == TransducerBench.NONE) {
            due("same is NONE by a long WORD", View.witness(bench).length() > LONGEST ? 1 : 0, 1);
            return;
        }
        String least = null;
        for (String word : words(LONGEST)) {
            if (least == null && !machines[0].of(word).equals(machines[1].of(word))) {
                least = word;
            }
        }
        SEEN[4 + answer]++;
        tellApart("same", answer, least);
    }

    private void tellLeast() {
        renew();
        if (bench.sequential(0) != 1) {
            return;
        }
        int states = bench.told(3);
        for (String word : words(4)) {
            if (renewFor(31)) {
                bench.sequential(0);
            }
            due("act " + word, View.act(bench, Make.number(word)), text(firstOf(0, word)));
        }
        if (states > 3) {
            return;
        }
        SEEN[6 + states]++;
        due("STATES", states, waysOn().size());
        due("BEGIN WORD", View.writes(bench, TransducerBench.NONE, 0), states == 0 ? "" : common(behind("").values()));
        if (states > 0 && states <= 2) {
            tellWrites(0, "");
        }
    }

    /** What is written from a STATE on a letter: what all that is written behind it has in common, less that ahead. */
    private void tellWrites(int state, String read) {
        String ahead = common(behind(read).values());
        for (int letter = 1; letter <= 3; letter++) {
            Map<String, String> next = behind(read + letter);
            String word = next.isEmpty() ? null : common(next.values()).substring(ahead.length());
            due("writes " + letter, View.writes(bench, state, letter), text(word));
        }
        String end = firstOf(0, read);
        due("writes 0", View.writes(bench, state, 0), text(end == null ? null : end.substring(ahead.length())));
    }

    /** What may be read behind a WORD, and what all is written by then. */
    private Map<String, String> behind(String read) {
        Map<String, String> all = new HashMap<>();
        for (String word : machines[0].outputs.keySet()) {
            if (word.startsWith(read) && word.length() <= read.length() + LONGEST - 2) {
                all.put(word.substring(read.length()), machines[0].of(word).first());
            }
        }
        return all;
    }

    private static String common(Iterable<String> words) {
        String all = null;
        for (String word : words) {
            int k = 0;
            while (all != null && k < all.length() && k < word.length() && all.charAt(k) == word.charAt(k)) {
                k++;
            }
            all = all == null ? word : all.substring(0, k);
        }
        return all == null ? "" : all;
    }

    /** All unlike ways to go on that WORDS of at most two letters lead to; a LEAST machine has a STATE for each. */
    private Set<Map<String, String>> waysOn() {
        Set<Map<String, String>> all = new HashSet<>();
        for (String read : words(2)) {
            Map<String, String> behind = behind(read);
            int ahead = common(behind.values()).length();
            behind.replaceAll((word, written) -> written.substring(ahead));
            if (!behind.isEmpty()) {
                all.add(behind);
            }
        }
        return all;
    }
}
