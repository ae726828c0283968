import java.util.ArrayDeque;
import java.util.ArrayList;
import java.util.Collection;
import java.util.Comparator;
import java.util.HashMap;
import java.util.HashSet;
import java.util.LinkedHashMap;
import java.util.LinkedHashSet;
import java.util.List;
import java.util.Map;
import java.util.Set;
import java.util.TreeMap;
import java.util.TreeSet;

/** The document once more, plainly, over texts and the library's collections: what TransducerBench is compared with. */
final class OracleBench {
    static final int NONE = -1;
    static final Comparator<String> WORDS = Comparator.comparingInt(String::length).thenComparing(Comparator.naturalOrder());

    /** A search that this oracle gives up. */
    static final class TooHard extends RuntimeException {
        private static final long serialVersionUID = 1;
    }

    record Arc(int from, int letter, int to, String word) { }

    record Place(int machine, int state, String text) { }

    static final class Machine {
        int n = 0;
        Set<Integer> beginning = new TreeSet<>();
        Map<Integer, String> end = new TreeMap<>();
        Set<Arc> arcs = new LinkedHashSet<>();

        Machine copied() {
            Machine m = new Machine();
            m.n = n;
            m.beginning.addAll(beginning);
            m.end.putAll(end);
            m.arcs.addAll(arcs);
            return m;
        }

        Set<Integer> reached() {
            Set<Integer> all = new TreeSet<>(beginning);
            boolean grown = true;
            while (grown) {
                grown = false;
                for (Arc a : arcs) {
                    grown |= all.contains(a.from) && all.add(a.to);
                }
            }
            return all;
        }

        Set<Integer> leading() {
            Set<Integer> all = new TreeSet<>(end.keySet());
            boolean grown = true;
            while (grown) {
                grown = false;
                for (Arc a : arcs) {
                    grown |= all.contains(a.to) && all.add(a.from);
                }
            }
            return all;
        }

        Set<Integer> useful() {
            Set<Integer> all = reached();
            all.retainAll(leading());
            return all;
        }

        TreeSet<String> outputs(String input) {
            TreeSet<String> found = new TreeSet<>(WORDS);
            Set<Place> now = new HashSet<>();
            for (int q : beginning) {
                now.add(new Place(0, q, ""));
            }
            for (char letter : input.toCharArray()) {
                now = step(now, letter - '0');
            }
            for (Place p : now) {
                if (end.containsKey(p.state)) {
                    found.add(p.text + end.get(p.state));
                }
            }
            return found;
        }

        Set<Place> step(Set<Place> now, int letter) {
            Set<Place> next = new HashSet<>();
            for (Place p : now) {
                for (Arc a : arcs) {
                    if (a.from == p.state && a.letter == letter) {
                        next.add(new Place(p.machine, a.to, p.text + a.word));
                    }
                }
            }
            return next;
        }

        boolean reads(String input) {
            Set<Integer> now = beginning;
            for (char letter : input.toCharArray()) {
                now = follow(now, letter - '0');
            }
            return now.stream().anyMatch(end::containsKey);
        }

        Set<Integer> follow(Set<Integer> now, int letter) {
            Set<Integer> next = new TreeSet<>();
            for (Arc a : arcs) {
                if (a.letter == letter && now.contains(a.from)) {
                    next.add(a.to);
                }
            }
            return next;
        }
    }

    private final Machine[] machines = {new Machine(), new Machine()};
    private List<String> outputs = new ArrayList<>();
    private String witness = null;
    private String[] wrote = new String[2];
    private int answers = 0;
    private int latest = NONE;
    private int levels;
    private int pairs;
    private int setsTold;
    private LeastMachine least = null;
    private String acted = "";

    static final class LeastMachine {
        String begin = "";
        List<String> end = new ArrayList<>();
        List<Map<Integer, Integer>> goes = new ArrayList<>();
        List<Map<Integer, String>> writes = new ArrayList<>();

        int arcs() {
            return goes.stream().mapToInt(Map::size).sum();
        }
    }

    // Words and numbers

    static boolean isWord(int number, int highest, int most) {
        if (number == 0) {
            return true;
        }
        String s = Integer.toString(number);
        return s.matches("[1-" + highest + "]+") && s.length() <= most;
    }

    static String text(int number) {
        return number == 0 ? "" : Integer.toString(number);
    }

    static int number(String text) {
        return text.isEmpty() ? 0 : Integer.parseInt(text);
    }

    static int kth(String word, int k, int without) {
        if (word == null) {
            return without;
        }
        return k >= 0 && k < word.length() ? word.charAt(k) - '0' : NONE;
    }

    static int common(String a, String b) {
        int k = 0;
        while (k < a.length() && k < b.length() && a.charAt(k) == b.charAt(k)) {
            k++;
        }
        return k;
    }

    static String common(Collection<String> words) {
        String all = null;
        for (String w : words) {
            all = all == null ? w : all.substring(0, common(all, w));
        }
        return all;
    }

    private boolean isMachine(int t) {
        return t == 0 || t == 1;
    }

    private boolean isState(int t, int q) {
        return isMachine(t) && q >= 0 && q < machines[t].n;
    }

    // The calls

    boolean machine(int t, int n) {
        if (!isMachine(t) || n < 0 || n > 6) {
            return false;
        }
        machines[t] = new Machine();
        machines[t].n = n;
        return true;
    }

    boolean begins(int t, int q, boolean is) {
        if (!isState(t, q)) {
            return false;
        }
        if (is) {
            machines[t].beginning.add(q);
        } else {
            machines[t].beginning.remove(q);
        }
        return true;
    }

    boolean ends(int t, int q, int word) {
        if (!isState(t, q) || word != NONE && !isWord(word, 9, 3)) {
            return false;
        }
        if (word == NONE) {
            machines[t].end.remove(q);
        } else {
            machines[t].end.put(q, text(word));
        }
        return true;
    }

    int arc(int t, int from, int letter, int to, int word) {
        if (!isState(t, from) || !isState(t, to) || letter < 1 || letter > 3 || !isWord(word, 9, 3)) {
            return NONE;
        }
        Arc arc = new Arc(from, letter, to, text(word));
        Set<Arc> arcs = machines[t].arcs;
        if (!arcs.contains(arc) && arcs.size() == 30) {
            return NONE;
        }
        arcs.add(arc);
        return arcs.size();
    }

    boolean copy(int t) {
        if (!isMachine(t)) {
            return false;
        }
        machines[t] = machines[1 - t].copied();
        return true;
    }

    boolean take(int t) {
        if (!isMachine(t) || least == null || !least.begin.isEmpty() || least.end.size() > 6) {
            return false;
        }
        Machine m = new Machine();
        m.n = least.end.size();
        for (int q = 0; q < m.n; q++) {
            if (q == 0) {
                m.beginning.add(0);
            }
            if (least.end.get(q) != null) {
                if (least.end.get(q).length() > 3) {
                    return false;
                }
                m.end.put(q, least.end.get(q));
            }
            for (int letter : least.goes.get(q).keySet()) {
                String word = least.writes.get(q).get(letter);
                if (word.length() > 3) {
                    return false;
                }
                m.arcs.add(new Arc(q, letter, least.goes.get(q).get(letter), word));
            }
        }
        machines[t] = m;
        return true;
    }

    int size(int t, int what) {
        if (!isMachine(t) || what < 0 || what > 2) {
            return NONE;
        }
        Machine m = machines[t];
        return what == 0 ? m.n : what == 1 ? m.arcs.size() : m.useful().size();
    }

    int useful(int t, int q) {
        return !isState(t, q) ? NONE : machines[t].useful().contains(q) ? 1 : 0;
    }

    int apply(int t, int word) {
        if (!isMachine(t) || !isWord(word, 3, 9)) {
            return NONE;
        }
        outputs = new ArrayList<>();
        Set<Place> now = new HashSet<>();
        for (int q : machines[t].beginning) {
            now.add(new Place(0, q, ""));
        }
        for (char letter : text(word).toCharArray()) {
            now = machines[t].step(now, letter - '0');
            if (now.size() > 60) {
                return -2;
            }
        }
        outputs.addAll(machines[t].outputs(text(word)));
        return outputs.size();
    }

    int output(int i, int k) {
        return i < 0 || i >= outputs.size() ? -2 : kth(outputs.get(i), k, -2);
    }

    int functional(int t) {
        return isMachine(t) ? decideFunctional(t) : NONE;
    }

    private int decideFunctional(int t) {
        Machine m = machines[t];
        if (agree(m, m)) {
            return 1;
        }
        witness = leastDiffering(m, m, true);
        List<String> both = new ArrayList<>(m.outputs(witness));
        wrote = new String[] {both.get(0), both.get(1)};
        return 0;
    }

    int readers() {
        String word = leastReadByOne();
        if (word == null) {
            return 1;
        }
        tellApart(word);
        return 0;
    }

    int same() {
        if (decideFunctional(0) == 0 || decideFunctional(1) == 0) {
            return NONE;
        }
        String read = leastReadByOne();
        String written = agree(machines[0], machines[1]) ? null : leastDiffering(machines[0], machines[1], false);
        if (read == null && written == null) {
            return 1;
        }
        if (read == null || written != null && WORDS.compare(written, read) < 0) {
            tellApart(written);
        } else {
            tellApart(read);
        }
        return 0;
    }

    private void tellApart(String word) {
        witness = word;
        for (int t = 0; t < 2; t++) {
            TreeSet<String> all = machines[t].outputs(word);
            wrote[t] = all.isEmpty() ? null : all.first();
        }
    }

    int sequential(int t) {
        if (!isMachine(t)) {
            return NONE;
        }
        if (answers == 24) {
            return -2;
        }
        if (decideFunctional(t) == 0) {
            return NONE;
        }
        answers++;
        least = null;
        setsTold = NONE;
        latest = twins(machines[t]);
        if (latest == 1) {
            latest = makeSets(machines[t]);
        }
        return latest;
    }

    int witness(int k) {
        return kth(witness, k, -2);
    }

    int wrote(int which, int k) {
        return witness == null || which < 0 || which > 1 ? -2 : kth(wrote[which], k, -2);
    }

    int told(int what) {
        if (latest == NONE || what < 0 || what > 4) {
            return NONE;
        }
        int[] all = {levels, pairs, setsTold, least == null ? NONE : least.end.size(), least == null ? NONE : least.arcs()};
        return all[what];
    }

    int goes(int q, int letter) {
        if (least == null || q < 0 || q >= least.end.size()) {
            return NONE;
        }
        return least.goes.get(q).getOrDefault(letter, NONE);
    }

    int writes(int q, int letter, int k) {
        if (least == null) {
            return -2;
        }
        if (q == NONE) {
            return kth(least.begin, k, -2);
        }
        if (q < 0 || q >= least.end.size()) {
            return -2;
        }
        return kth(letter == 0 ? least.end.get(q) : least.writes.get(q).get(letter), k, -2);
    }

    int act(int word) {
        if (least == null || least.end.isEmpty() || !isWord(word, 3, 9)) {
            return NONE;
        }
        StringBuilder all = new StringBuilder(least.begin);
        int q = 0;
        for (char letter : text(word).toCharArray()) {
            if (!least.goes.get(q).containsKey(letter - '0')) {
                return NONE;
            }
            all.append(least.writes.get(q).get(letter - '0'));
            q = least.goes.get(q).get(letter - '0');
        }
        if (least.end.get(q) == null) {
            return NONE;
        }
        acted = all + least.end.get(q);
        return acted.length();
    }

    int acted(int k) {
        return kth(acted, k, NONE);
    }

    // Deciding

    /** Whether two machines write the same wherever both write: each pair of STATES on common ways has one DELAY. */
    static boolean agree(Machine a, Machine b) {
        Set<String> leading = leadingPairs(a, b);
        Map<String, String> delays = new HashMap<>();
        ArrayDeque<String> open = new ArrayDeque<>();
        for (int p : a.beginning) {
            for (int q : b.beginning) {
                if (leading.contains(p + "," + q)) {
                    delays.put(p + "," + q, "/");
                    open.add(p + "," + q);
                }
            }
        }
        while (!open.isEmpty()) {
            String pair = open.remove();
            int p = pair.charAt(0) - '0';
            int q = pair.charAt(2) - '0';
            String[] delay = delays.get(pair).split("/", -1);
            if (a.end.containsKey(p) && b.end.containsKey(q)
                    && !(delay[0] + a.end.get(p)).equals(delay[1] + b.end.get(q))) {
                return false;
            }
            for (Arc x : a.arcs) {
                for (Arc y : b.arcs) {
                    String to = x.to + "," + y.to;
                    if (x.from != p || y.from != q || x.letter != y.letter || !leading.contains(to)) {
                        continue;
                    }
                    String u = delay[0] + x.word;
                    String v = delay[1] + y.word;
                    int k = common(u, v);
                    String next = u.substring(k) + "/" + v.substring(k);
                    if (k < u.length() && k < v.length()) {
                        return false;
                    }
                    String old = delays.put(to, next);
                    if (old == null) {
                        open.add(to);
                    } else if (!old.equals(next)) {
                        return false;
                    }
                }
            }
        }
        return true;
    }

    private static Set<String> leadingPairs(Machine a, Machine b) {
        Set<String> leading = new HashSet<>();
        for (int p : a.end.keySet()) {
            for (int q : b.end.keySet()) {
                leading.add(p + "," + q);
            }
        }
        boolean grown = true;
        while (grown) {
            grown = false;
            for (Arc x : a.arcs) {
                for (Arc y : b.arcs) {
                    if (x.letter == y.letter && leading.contains(x.to + "," + y.to)) {
                        grown |= leading.add(x.from + "," + y.from);
                    }
                }
            }
        }
        return leading;
    }

    /** Word after word: all that was written, less what all have in common; what was there before is not gone on with. */
    static String leastDiffering(Machine a, Machine b, boolean one) {
        Machine[] both = one ? new Machine[] {a} : new Machine[] {a, b};
        Set<Place> first = new HashSet<>();
        for (int t = 0; t < both.length; t++) {
            for (int q : both[t].beginning) {
                if (both[t].leading().contains(q)) {
                    first.add(new Place(t, q, ""));
                }
            }
        }
        Map<Set<Place>, String> seen = new HashMap<>();
        ArrayDeque<Set<Place>> open = new ArrayDeque<>();
        seen.put(first, "");
        open.add(first);
        while (!open.isEmpty()) {
            Set<Place> now = open.remove();
            String word = seen.get(now);
            if (showsTwo(both, now)) {
                return word;
            }
            for (int letter = 1; letter <= 3; letter++) {
                Set<Place> next = lead(both, now, letter);
                if (!next.isEmpty() && !seen.containsKey(next)) {
                    seen.put(next, word + letter);
                    open.add(next);
                }
            }
            if (seen.size() > 3000 || now.size() > 3000) {
                throw new TooHard();
            }
        }
        throw new IllegalStateException("no WORD shows it");
    }

    private static boolean showsTwo(Machine[] both, Set<Place> now) {
        Set<String> texts = new HashSet<>();
        for (Place p : now) {
            if (both[p.machine].end.containsKey(p.state)) {
                texts.add(p.text + both[p.machine].end.get(p.state));
            }
        }
        return texts.size() > 1;
    }

    private static Set<Place> lead(Machine[] both, Set<Place> now, int letter) {
        Set<Place> next = new HashSet<>();
        List<String> texts = new ArrayList<>();
        for (Place p : now) {
            for (Arc a : both[p.machine].arcs) {
                if (a.from == p.state && a.letter == letter && both[p.machine].leading().contains(a.to)) {
                    next.add(new Place(p.machine, a.to, p.text + a.word));
                    texts.add(p.text + a.word);
                }
            }
        }
        int k = texts.isEmpty() ? 0 : common(texts).length();
        Set<Place> shorter = new HashSet<>();
        for (Place p : next) {
            shorter.add(new Place(p.machine, p.state, p.text.substring(k)));
        }
        return shorter;
    }

    private String leastReadByOne() {
        Map<List<Set<Integer>>, String> seen = new HashMap<>();
        ArrayDeque<List<Set<Integer>>> open = new ArrayDeque<>();
        List<Set<Integer>> first = List.of(machines[0].beginning, machines[1].beginning);
        seen.put(first, "");
        open.add(first);
        while (!open.isEmpty()) {
            List<Set<Integer>> now = open.remove();
            boolean zero = now.get(0).stream().anyMatch(machines[0].end::containsKey);
            boolean one = now.get(1).stream().anyMatch(machines[1].end::containsKey);
            if (zero != one) {
                return seen.get(now);
            }
            for (int letter = 1; letter <= 3; letter++) {
                List<Set<Integer>> next = List.of(machines[0].follow(now.get(0), letter), machines[1].follow(now.get(1), letter));
                if (!seen.containsKey(next)) {
                    seen.put(next, seen.get(now) + letter);
                    open.add(next);
                }
            }
        }
        return null;
    }

    // Part III

    private int twins(Machine m) {
        Set<Integer> useful = m.useful();
        int longest = 0;
        for (Arc a : m.arcs) {
            if (useful.contains(a.from) && useful.contains(a.to)) {
                longest = Math.max(longest, a.word.length());
            }
        }
        int limit = longest * useful.size() * useful.size();
        levels = 0;
        pairs = 0;
        Set<List<String>> all = new HashSet<>();
        Set<List<String>> level = new LinkedHashSet<>();
        for (int p : m.beginning) {
            for (int q : m.beginning) {
                if (useful.contains(p) && useful.contains(q)) {
                    level.add(List.of("" + p, "" + q, "", ""));
                }
            }
        }
        while (true) {
            level.removeAll(all);
            if (level.isEmpty()) {
                return 1;
            }
            levels++;
            all.addAll(level);
            pairs = Math.min(all.size(), 1001);
            for (List<String> x : level) {
                if (x.get(2).length() > limit || x.get(3).length() > limit) {
                    return 0;
                }
            }
            if (all.size() > 1000) {
                return 2;
            }
            level = behind(m, useful, level);
        }
    }

    private static Set<List<String>> behind(Machine m, Set<Integer> useful, Set<List<String>> level) {
        Set<List<String>> next = new LinkedHashSet<>();
        for (List<String> x : level) {
            for (Arc a : m.arcs) {
                if (a.from != Integer.parseInt(x.get(0)) || !useful.contains(a.to)) {
                    continue;
                }
                for (Arc b : m.arcs) {
                    if (b.from == Integer.parseInt(x.get(1)) && b.letter == a.letter && useful.contains(b.to)) {
                        String u = x.get(2) + a.word;
                        String v = x.get(3) + b.word;
                        int k = common(u, v);
                        next.add(List.of("" + a.to, "" + b.to, u.substring(k), v.substring(k)));
                    }
                }
            }
        }
        return next;
    }

    private int makeSets(Machine m) {
        Set<Integer> useful = m.useful();
        Map<Map<Integer, String>, Integer> numbers = new LinkedHashMap<>();
        List<Map<Integer, String>> sets = new ArrayList<>();
        List<int[]> goes = new ArrayList<>();
        List<String[]> writes = new ArrayList<>();
        Map<Integer, String> first = new TreeMap<>();
        for (int q : m.beginning) {
            if (useful.contains(q)) {
                first.put(q, "");
            }
        }
        if (!first.isEmpty()) {
            numbers.put(first, 0);
            sets.add(first);
        }
        for (int s = 0; s < sets.size(); s++) {
            goes.add(new int[] {NONE, NONE, NONE, NONE});
            writes.add(new String[4]);
            for (int letter = 1; letter <= 3; letter++) {
                Map<Integer, String> next = new TreeMap<>();
                for (Arc a : m.arcs) {
                    if (a.letter == letter && sets.get(s).containsKey(a.from) && useful.contains(a.to)) {
                        String rest = sets.get(s).get(a.from) + a.word;
                        String old = next.put(a.to, rest);
                        if (old != null && !old.equals(rest)) {
                            throw new IllegalStateException("two rests of one STATE");
                        }
                    }
                }
                if (next.isEmpty()) {
                    continue;
                }
                String written = common(next.values());
                next.replaceAll((q, rest) -> rest.substring(written.length()));
                if (!numbers.containsKey(next)) {
                    if (sets.size() == 100) {
                        setsTold = 101;
                        return 2;
                    }
                    numbers.put(next, sets.size());
                    sets.add(next);
                }
                goes.get(s)[letter] = numbers.get(next);
                writes.get(s)[letter] = written;
            }
        }
        setsTold = sets.size();
        List<String> end = new ArrayList<>();
        for (Map<Integer, String> set : sets) {
            String word = null;
            for (int q : set.keySet()) {
                if (m.end.containsKey(q)) {
                    word = set.get(q) + m.end.get(q);
                }
            }
            end.add(word);
        }
        makeLeast(goes, writes, end);
        return 1;
    }

    private void makeLeast(List<int[]> goes, List<String[]> writes, List<String> end) {
        int n = end.size();
        least = new LeastMachine();
        if (n == 0) {
            return;
        }
        String[] early = earlyWords(goes, writes, end);
        int[] block = new int[n];
        int blocks = 1;
        while (true) {
            Map<List<Object>, Integer> names = new HashMap<>();
            int[] next = new int[n];
            for (int s = 0; s < n; s++) {
                List<Object> look = new ArrayList<>();
                look.add(block[s]);
                look.add(end.get(s) == null ? "none" : end.get(s).substring(early[s].length()));
                for (int letter = 1; letter <= 3; letter++) {
                    int to = goes.get(s)[letter];
                    look.add(to == NONE ? "none" : (writes.get(s)[letter] + early[to]).substring(early[s].length()));
                    look.add(to == NONE ? NONE : block[to]);
                }
                names.putIfAbsent(look, names.size());
                next[s] = names.get(look);
            }
            block = next;
            if (names.size() == blocks) {
                break;
            }
            blocks = names.size();
        }
        least.begin = early[0];
        Map<Integer, Integer> numbers = new HashMap<>();
        List<Integer> chosen = new ArrayList<>(List.of(0));
        numbers.put(block[0], 0);
        for (int q = 0; q < chosen.size(); q++) {
            int s = chosen.get(q);
            least.end.add(end.get(s) == null ? null : end.get(s).substring(early[s].length()));
            least.goes.add(new TreeMap<>());
            least.writes.add(new TreeMap<>());
            for (int letter = 1; letter <= 3; letter++) {
                int to = goes.get(s)[letter];
                if (to == NONE) {
                    continue;
                }
                if (!numbers.containsKey(block[to])) {
                    numbers.put(block[to], chosen.size());
                    chosen.add(to);
                }
                least.goes.get(q).put(letter, numbers.get(block[to]));
                least.writes.get(q).put(letter, (writes.get(s)[letter] + early[to]).substring(early[s].length()));
            }
        }
    }

    /** What all outputs of a SET begin with: null, for all words at once, is shortened until nothing changes. */
    private static String[] earlyWords(List<int[]> goes, List<String[]> writes, List<String> end) {
        int n = end.size();
        String[] early = new String[n];
        boolean changed = true;
        while (changed) {
            changed = false;
            for (int s = 0; s < n; s++) {
                List<String> all = new ArrayList<>();
                if (end.get(s) != null) {
                    all.add(end.get(s));
                }
                for (int letter = 1; letter <= 3; letter++) {
                    int to = goes.get(s)[letter];
                    if (to != NONE && early[to] != null) {
                        all.add(writes.get(s)[letter] + early[to]);
                    }
                }
                String word = common(all);
                if (word != null && !word.equals(early[s])) {
                    early[s] = word;
                    changed = true;
                }
            }
        }
        return early;
    }

    Machine machineOf(int t) {
        return machines[t];
    }

    LeastMachine leastMachine() {
        return least;
    }
}
