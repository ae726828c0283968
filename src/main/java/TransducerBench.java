import java.util.Arrays;

/** A bench of two transducers and what can be told of them; the document ../shared/DOC.md says it in promises. */
public final class TransducerBench {
    public static final int NONE = -1;

    private static final int WITHOUT = -2;
    private static final int UNTOLD = 2;
    private static final int MACHINES = 2;
    private static final int MOST_STATES = 6;
    private static final int MOST_ARCS = 30;
    private static final int INPUT_LETTERS = 3;
    private static final int OUTPUT_LETTERS = 9;
    private static final int LONGEST_INPUT = 9;
    private static final int LONGEST_LABEL = 3;
    private static final int MOST_ANSWERS = 24;

    private static final int LONGEST_OUTPUT = (LONGEST_INPUT + 1) * LONGEST_LABEL;

    // Two machines of 6 STATES that are told apart at all are told apart by at most 2 * 64 - 2 letters.
    private static final int SHOWN_ROOM = 128;
    private static final int SHOWN_OUTPUT_ROOM = SHOWN_ROOM * LONGEST_LABEL + LONGEST_LABEL;

    private final Machine[] machines;
    private final Outputs outputs;
    private final Difference difference;
    private final Readings readings;
    private final Witness witness;
    private final Twins twins;
    private final Sets sets;
    private final Least least;
    private final Word asked;
    private final Word acted;
    private final Word shown;
    private final Word alsoShown;
    private int answers;
    private int latestAnswer;
    private int setsTold;

    public TransducerBench() {
        machines = new Machine[MACHINES];
        for (int t = 0; t < MACHINES; t++) {
            machines[t] = new Machine();
        }
        outputs = new Outputs();
        difference = new Difference();
        readings = new Readings();
        witness = new Witness();
        twins = new Twins();
        sets = new Sets();
        least = new Least(sets);
        asked = new Word(LONGEST_INPUT);
        acted = new Word(LONGEST_OUTPUT);
        shown = new Word(SHOWN_ROOM);
        alsoShown = new Word(SHOWN_ROOM);
        answers = 0;
        latestAnswer = NONE;
        setsTold = NONE;
    }

    public boolean machine(int t, int n) {
        if (!isMachine(t) || n < 0 || n > MOST_STATES) {
            return false;
        }
        machines[t].renew(n);
        return true;
    }

    public boolean begins(int t, int q, boolean is) {
        if (!isState(t, q)) {
            return false;
        }
        machines[t].setBeginning(q, is);
        return true;
    }

    public boolean ends(int t, int q, int word) {
        if (!isState(t, q)) {
            return false;
        }
        if (word != NONE && !isWord(word, OUTPUT_LETTERS, LONGEST_LABEL)) {
            return false;
        }
        machines[t].end[q] = word;
        return true;
    }

    public int arc(int t, int from, int letter, int to, int word) {
        if (!isState(t, from) || !isState(t, to) || !isInputLetter(letter)) {
            return NONE;
        }
        if (!isWord(word, OUTPUT_LETTERS, LONGEST_LABEL)) {
            return NONE;
        }
        return machines[t].addArc(from, letter, to, word);
    }

    public boolean copy(int t) {
        if (!isMachine(t)) {
            return false;
        }
        machines[t].become(machines[1 - t]);
        return true;
    }

    public boolean take(int t) {
        if (!isMachine(t) || !hasLeast() || !least.fitsMachine()) {
            return false;
        }
        least.fill(machines[t]);
        return true;
    }

    public int size(int t, int what) {
        if (!isMachine(t)) {
            return NONE;
        }
        switch (what) {
            case 0:
                return machines[t].states;
            case 1:
                return machines[t].arcs;
            case 2:
                return Integer.bitCount(machines[t].usefulStates());
            default:
                return NONE;
        }
    }

    public int useful(int t, int q) {
        if (!isState(t, q)) {
            return NONE;
        }
        return machines[t].usefulStates() >> q & 1;
    }

    public int apply(int t, int word) {
        if (!isMachine(t) || !isInput(word)) {
            return NONE;
        }
        asked.read(word);
        return outputs.gather(machines[t], asked) ? outputs.count : WITHOUT;
    }

    public int output(int i, int k) {
        if (i < 0 || i >= outputs.count) {
            return WITHOUT;
        }
        return outputs.found[i].letterAt(k);
    }

    public int functional(int t) {
        if (!isMachine(t)) {
            return NONE;
        }
        return testFunctional(machines[t]) ? 1 : 0;
    }

    public int readers() {
        if (!readings.differ(machines[0], machines[1], shown)) {
            return 1;
        }
        witness.tellMachinesApart(machines[0], machines[1], shown);
        return 0;
    }

    public int same() {
        if (!testFunctional(machines[0]) || !testFunctional(machines[1])) {
            return NONE;
        }
        boolean read = readings.differ(machines[0], machines[1], shown);
        boolean written = difference.differ(machines[0], machines[1], alsoShown);
        if (!read && !written) {
            return 1;
        }
        boolean readFirst = read && (!written || shown.compareWith(alsoShown) < 0);
        witness.tellMachinesApart(machines[0], machines[1], readFirst ? shown : alsoShown);
        return 0;
    }

    public int sequential(int t) {
        if (!isMachine(t)) {
            return NONE;
        }
        if (answers >= MOST_ANSWERS) {
            return WITHOUT;
        }
        if (!testFunctional(machines[t])) {
            return NONE;
        }
        answers++;
        latestAnswer = makeSequential(machines[t]);
        return latestAnswer;
    }

    public int witness(int k) {
        return witness.there ? witness.word.letterAt(k) : WITHOUT;
    }

    public int wrote(int which, int k) {
        return witness.hasWritten(which) ? witness.written[which].letterAt(k) : WITHOUT;
    }

    public int told(int what) {
        if (latestAnswer == NONE) {
            return NONE;
        }
        switch (what) {
            case 0:
                return twins.levels;
            case 1:
                return twins.count;
            case 2:
                return setsTold;
            case 3:
                return hasLeast() ? least.states : NONE;
            case 4:
                return hasLeast() ? least.arcs : NONE;
            default:
                return NONE;
        }
    }

    public int goes(int q, int letter) {
        return hasLeast() ? least.stateBehind(q, letter) : NONE;
    }

    public int writes(int q, int letter, int k) {
        if (!hasLeast()) {
            return WITHOUT;
        }
        Word word = least.wordOf(q, letter);
        return word == null ? WITHOUT : word.letterAt(k);
    }

    public int act(int word) {
        if (!hasLeast() || !isInput(word)) {
            return NONE;
        }
        asked.read(word);
        if (!least.accepts(asked)) {
            return NONE;
        }
        least.translate(asked, acted);
        return acted.length;
    }

    public int acted(int k) {
        return acted.letterAt(k);
    }

    private boolean testFunctional(Machine machine) {
        if (!difference.differ(machine, machine, shown)) {
            return true;
        }
        witness.tellOutputsApart(machine, shown);
        return false;
    }

    private int makeSequential(Machine machine) {
        setsTold = NONE;
        int answer = twins.judge(machine);
        if (answer != 1) {
            return answer;
        }
        boolean told = sets.make(machine);
        setsTold = sets.count;
        if (!told) {
            return UNTOLD;
        }
        least.make(machine);
        return 1;
    }

    private boolean hasLeast() {
        return latestAnswer == 1;
    }

    private boolean isMachine(int t) {
        return t >= 0 && t < MACHINES;
    }

    private boolean isState(int t, int q) {
        return isMachine(t) && q >= 0 && q < machines[t].states;
    }

    private static boolean isInputLetter(int letter) {
        return letter >= 1 && letter <= INPUT_LETTERS;
    }

    private static boolean isInput(int word) {
        return isWord(word, INPUT_LETTERS, LONGEST_INPUT);
    }

    private static boolean isWord(int number, int highestLetter, int longest) {
        if (number < 0) {
            return false;
        }
        int length = 0;
        for (int rest = number; rest > 0; rest /= 10) {
            int letter = rest % 10;
            if (letter < 1 || letter > highestLetter) {
                return false;
            }
            length++;
        }
        return length <= longest;
    }

    private static boolean holds(int set, int state) {
        return (set >> state & 1) != 0;
    }

    private static Word[] makeWords(int count, int room) {
        Word[] words = new Word[count];
        for (int i = 0; i < count; i++) {
            words[i] = new Word(room);
        }
        return words;
    }

    /** Letters in a row of fixed room. The callers' bounds keep every WORD within it; add() drops what would not fit. */
    private static final class Word {
        final int[] letters;
        int length;

        Word(int room) {
            letters = new int[room];
            length = 0;
        }

        void clear() {
            length = 0;
        }

        int letterAt(int k) {
            return k < 0 || k >= length ? NONE : letters[k];
        }

        void add(int letter) {
            if (length < letters.length) {
                letters[length] = letter;
                length++;
            }
        }

        void addNumber(int number) {
            if (number <= 0) {
                return;
            }
            int unit = 1;
            for (int rest = number / 10; rest > 0; rest /= 10) {
                unit *= 10;
            }
            for (; unit > 0; unit /= 10) {
                add(number / unit % 10);
            }
        }

        void addWord(Word other) {
            int room = letters.length - length;
            int count = other.length < room ? other.length : room;
            System.arraycopy(other.letters, 0, letters, length, count);
            length += count;
        }

        void read(int number) {
            clear();
            addNumber(number);
        }

        void become(Word other) {
            length = other.length < letters.length ? other.length : letters.length;
            System.arraycopy(other.letters, 0, letters, 0, length);
        }

        int number() {
            int number = 0;
            for (int k = 0; k < length; k++) {
                number = number * 10 + letters[k];
            }
            return number;
        }

        int compareWith(Word other) {
            if (length != other.length) {
                return length < other.length ? -1 : 1;
            }
            int alike = commonWith(other);
            return Integer.compare(letterAt(alike), other.letterAt(alike));
        }

        boolean isAlike(Word other) {
            if (length != other.length) {
                return false;
            }
            for (int k = 0; k < length; k++) {
                if (letters[k] != other.letters[k]) {
                    return false;
                }
            }
            return true;
        }

        int commonWith(Word other) {
            int k = 0;
            while (k < length && k < other.length && letters[k] == other.letters[k]) {
                k++;
            }
            return k;
        }

        /** How many first letters this WORD shares with two others put one behind the other. */
        int commonWith(Word first, Word second) {
            int k = commonWith(first);
            if (k < first.length) {
                return k;
            }
            while (k < length && letters[k] == second.letterAt(k - first.length)) {
                k++;
            }
            return k;
        }

        void shortenTo(int most) {
            length = Math.max(0, Math.min(length, most));
        }

        void dropFirst(int count) {
            if (count <= 0) {
                return;
            }
            int dropped = Math.min(count, length);
            System.arraycopy(letters, dropped, letters, 0, length - dropped);
            length -= dropped;
        }

        void reverse() {
            for (int low = 0, high = length - 1; low < high; low++, high--) {
                int letter = letters[low];
                letters[low] = letters[high];
                letters[high] = letter;
            }
        }
    }

    /** One of the two machines; sets of STATES are bits of an int. */
    private static final class Machine {
        int states;
        int arcs;
        int beginning;
        final int[] end;
        final int[] from;
        final int[] letter;
        final int[] to;
        final int[] word;

        Machine() {
            end = new int[MOST_STATES];
            from = new int[MOST_ARCS];
            letter = new int[MOST_ARCS];
            to = new int[MOST_ARCS];
            word = new int[MOST_ARCS];
            renew(0);
        }

        void renew(int count) {
            states = count;
            arcs = 0;
            beginning = 0;
            Arrays.fill(end, NONE);
        }

        void setBeginning(int state, boolean is) {
            beginning = is ? beginning | 1 << state : beginning & ~(1 << state);
        }

        int addArc(int start, int read, int goal, int label) {
            for (int a = 0; a < arcs; a++) {
                if (from[a] == start && letter[a] == read && to[a] == goal && word[a] == label) {
                    return arcs;
                }
            }
            if (arcs >= MOST_ARCS) {
                return NONE;
            }
            from[arcs] = start;
            letter[arcs] = read;
            to[arcs] = goal;
            word[arcs] = label;
            arcs++;
            return arcs;
        }

        void become(Machine other) {
            states = other.states;
            arcs = other.arcs;
            beginning = other.beginning;
            System.arraycopy(other.end, 0, end, 0, MOST_STATES);
            System.arraycopy(other.from, 0, from, 0, MOST_ARCS);
            System.arraycopy(other.letter, 0, letter, 0, MOST_ARCS);
            System.arraycopy(other.to, 0, to, 0, MOST_ARCS);
            System.arraycopy(other.word, 0, word, 0, MOST_ARCS);
        }

        boolean hasEnd(int state) {
            return end[state] != NONE;
        }

        int ending() {
            int ending = 0;
            for (int q = 0; q < states; q++) {
                if (hasEnd(q)) {
                    ending |= 1 << q;
                }
            }
            return ending;
        }

        int usefulStates() {
            int reached = beginning;
            int leading = ending();
            for (int round = 0; round < MOST_STATES; round++) {
                for (int a = 0; a < arcs; a++) {
                    if (holds(reached, from[a])) {
                        reached |= 1 << to[a];
                    }
                    if (holds(leading, to[a])) {
                        leading |= 1 << from[a];
                    }
                }
            }
            return reached & leading;
        }

        int follow(int set, int read) {
            int behind = 0;
            for (int a = 0; a < arcs; a++) {
                if (letter[a] == read && holds(set, from[a])) {
                    behind |= 1 << to[a];
                }
            }
            return behind;
        }
    }

    /** The OUTPUTS of one WORD, made from the pairs of a STATE and what was written, letter by letter. */
    private static final class Outputs {
        static final int MOST = 60;

        int count;
        final Word[] found;
        private final Word candidate;
        private int[] states;
        private Word[] texts;
        private int reached;
        private int[] nextStates;
        private Word[] nextTexts;
        private int nextReached;

        Outputs() {
            count = 0;
            found = makeWords(MOST, LONGEST_OUTPUT);
            candidate = new Word(LONGEST_OUTPUT);
            states = new int[MOST];
            texts = makeWords(MOST, LONGEST_OUTPUT);
            reached = 0;
            nextStates = new int[MOST];
            nextTexts = makeWords(MOST, LONGEST_OUTPUT);
            nextReached = 0;
        }

        /** False, and no OUTPUTS, if there are too many pairs behind some letter. */
        boolean gather(Machine machine, Word input) {
            count = 0;
            begin(machine);
            for (int k = 0; k < input.length; k++) {
                if (!step(machine, input.letters[k])) {
                    return false;
                }
            }
            finish(machine);
            return true;
        }

        private void begin(Machine machine) {
            reached = 0;
            for (int q = 0; q < machine.states; q++) {
                if (holds(machine.beginning, q) && reached < MOST) {
                    states[reached] = q;
                    texts[reached].clear();
                    reached++;
                }
            }
        }

        private boolean step(Machine machine, int letter) {
            nextReached = 0;
            for (int i = 0; i < reached; i++) {
                for (int a = 0; a < machine.arcs; a++) {
                    if (machine.from[a] != states[i] || machine.letter[a] != letter) {
                        continue;
                    }
                    candidate.become(texts[i]);
                    candidate.addNumber(machine.word[a]);
                    if (!reach(machine.to[a])) {
                        return false;
                    }
                }
            }
            turn();
            return true;
        }

        private boolean reach(int state) {
            for (int i = 0; i < nextReached; i++) {
                if (nextStates[i] == state && nextTexts[i].isAlike(candidate)) {
                    return true;
                }
            }
            if (nextReached >= MOST) {
                return false;
            }
            nextStates[nextReached] = state;
            nextTexts[nextReached].become(candidate);
            nextReached++;
            return true;
        }

        private void turn() {
            int[] oldStates = states;
            Word[] oldTexts = texts;
            states = nextStates;
            texts = nextTexts;
            reached = nextReached;
            nextStates = oldStates;
            nextTexts = oldTexts;
        }

        private void finish(Machine machine) {
            for (int i = 0; i < reached; i++) {
                if (machine.hasEnd(states[i])) {
                    candidate.become(texts[i]);
                    candidate.addNumber(machine.end[states[i]]);
                    sortIn();
                }
            }
        }

        private void sortIn() {
            int place = 0;
            while (place < count && found[place].compareWith(candidate) < 0) {
                place++;
            }
            if (place < count && found[place].isAlike(candidate) || count >= MOST) {
                return;
            }
            Word spare = found[count];
            for (int i = count; i > place; i--) {
                found[i] = found[i - 1];
            }
            found[place] = spare;
            spare.become(candidate);
            count++;
        }
    }

    /** Two STATES that one WORD leads to, and the DELAY of what was written on the way. */
    private static final class Pair {
        int first;
        int second;
        final Word left;
        final Word right;

        Pair(int room) {
            left = new Word(room);
            right = new Word(room);
        }

        void begin(int p, int q) {
            first = p;
            second = q;
            left.clear();
            right.clear();
        }

        void follow(Pair before, int leftLabel, int rightLabel) {
            left.become(before.left);
            left.addNumber(leftLabel);
            right.become(before.right);
            right.addNumber(rightLabel);
            int common = left.commonWith(right);
            left.dropFirst(common);
            right.dropFirst(common);
        }

        boolean isApart() {
            return left.length > 0 && right.length > 0;
        }

        /** What is apart stays apart: of such DELAYS one letter a side tells all that matters to a Difference. */
        void forgetHowApart() {
            left.shortenTo(1);
            right.shortenTo(1);
        }

        boolean isAlike(Pair other) {
            return first == other.first && second == other.second
                    && left.isAlike(other.left) && right.isAlike(other.right);
        }

        int longerSide() {
            return Math.max(left.length, right.length);
        }

        int hash() {
            int hash = first * MOST_STATES + second;
            hash = hash * 31 + left.length;
            hash = hash * 31 + right.length;
            hash = hash * 31 + left.letterAt(0) * 10 + left.letterAt(left.length - 1);
            return hash * 31 + right.letterAt(0) * 10 + right.letterAt(right.length - 1);
        }
    }

    /**
     * The least WORD with one output in a machine and another one in a second (or in the same).
     *
     * Pairs are kept in groups, a group for each WORD, in the order of these. Of two STATES the first two DELAYS
     * are enough: what is read from there to an END tells at least one of them apart, by a lesser WORD than a third.
     */
    private static final class Difference {
        static final int MOST = 2 * MOST_STATES * MOST_STATES;
        static final int ROOM = (MOST + 2) * LONGEST_LABEL;

        private final Pair[] pairs;
        private int count;
        private final int[] firstKept;
        private final int[] kept;
        private final int[] groupStart;
        private final int[] groupEnd;
        private final int[] groupBefore;
        private final int[] groupLetter;
        private int groups;
        private final Word leftText;
        private final Word rightText;

        Difference() {
            pairs = new Pair[MOST + 1];
            for (int i = 0; i <= MOST; i++) {
                pairs[i] = new Pair(ROOM);
            }
            firstKept = new int[MOST_STATES * MOST_STATES];
            kept = new int[MOST_STATES * MOST_STATES];
            groupStart = new int[MOST + 1];
            groupEnd = new int[MOST + 1];
            groupBefore = new int[MOST + 1];
            groupLetter = new int[MOST + 1];
            leftText = new Word(ROOM + LONGEST_LABEL);
            rightText = new Word(ROOM + LONGEST_LABEL);
        }

        boolean differ(Machine one, Machine other, Word shown) {
            begin(one, other);
            for (int g = 0; g < groups && g <= MOST; g++) {
                if (shows(one, other, g)) {
                    spell(g, shown);
                    return true;
                }
                for (int letter = 1; letter <= INPUT_LETTERS; letter++) {
                    grow(one, other, g, letter);
                }
            }
            return false;
        }

        private void begin(Machine one, Machine other) {
            count = 0;
            groups = 0;
            Arrays.fill(kept, 0);
            for (int p = 0; p < one.states; p++) {
                for (int q = 0; q < other.states; q++) {
                    if (holds(one.beginning, p) && holds(other.beginning, q)) {
                        pairs[count].begin(p, q);
                        keep();
                    }
                }
            }
            closeGroup(0, NONE, NONE);
        }

        private void grow(Machine one, Machine other, int group, int letter) {
            int start = count;
            for (int i = groupStart[group]; i < groupEnd[group]; i++) {
                for (int a = 0; a < one.arcs; a++) {
                    if (one.from[a] == pairs[i].first && one.letter[a] == letter) {
                        pairUp(one, a, other, i);
                    }
                }
            }
            closeGroup(start, group, letter);
        }

        private void pairUp(Machine one, int a, Machine other, int i) {
            for (int b = 0; b < other.arcs; b++) {
                if (other.from[b] != pairs[i].second || other.letter[b] != one.letter[a] || count >= MOST) {
                    continue;
                }
                Pair made = pairs[count];
                made.first = one.to[a];
                made.second = other.to[b];
                made.follow(pairs[i], one.word[a], other.word[b]);
                if (made.isApart()) {
                    made.forgetHowApart();
                }
                keep();
            }
        }

        private void keep() {
            Pair made = pairs[count];
            int place = made.first * MOST_STATES + made.second;
            if (kept[place] >= 2) {
                return;
            }
            if (kept[place] == 0) {
                firstKept[place] = count;
            } else if (pairs[firstKept[place]].isApart() || pairs[firstKept[place]].isAlike(made)) {
                return;
            }
            kept[place]++;
            count++;
        }

        private void closeGroup(int start, int before, int letter) {
            if (count == start || groups > MOST) {
                return;
            }
            groupStart[groups] = start;
            groupEnd[groups] = count;
            groupBefore[groups] = before;
            groupLetter[groups] = letter;
            groups++;
        }

        private boolean shows(Machine one, Machine other, int group) {
            for (int i = groupStart[group]; i < groupEnd[group]; i++) {
                Pair pair = pairs[i];
                if (one.hasEnd(pair.first) && other.hasEnd(pair.second)) {
                    leftText.become(pair.left);
                    leftText.addNumber(one.end[pair.first]);
                    rightText.become(pair.right);
                    rightText.addNumber(other.end[pair.second]);
                    if (!leftText.isAlike(rightText)) {
                        return true;
                    }
                }
            }
            return false;
        }

        private void spell(int group, Word shown) {
            shown.clear();
            int at = group;
            for (int k = 0; k <= MOST && at > 0; k++) {
                shown.add(groupLetter[at]);
                at = groupBefore[at];
            }
            shown.reverse();
        }
    }

    /** The least WORD that one machine reads and another doesn't: pairs of sets of STATES, in the order of WORDS. */
    private static final class Readings {
        static final int MOST = 1 << 2 * MOST_STATES;

        private final boolean[] seen;
        private final int[] pairs;
        private final int[] before;
        private final int[] letters;
        private int count;

        Readings() {
            seen = new boolean[MOST];
            pairs = new int[MOST];
            before = new int[MOST];
            letters = new int[MOST];
        }

        boolean differ(Machine one, Machine other, Word shown) {
            count = 0;
            reach(one.beginning, other.beginning, NONE, NONE);
            int found = search(one, other);
            if (found != NONE) {
                spell(found, shown);
            }
            for (int i = 0; i < count; i++) {
                seen[pairs[i]] = false;
            }
            return found != NONE;
        }

        private int search(Machine one, Machine other) {
            int oneEnding = one.ending();
            int otherEnding = other.ending();
            for (int i = 0; i < count && i < MOST; i++) {
                int left = pairs[i] >> MOST_STATES;
                int right = pairs[i] & (1 << MOST_STATES) - 1;
                boolean oneReads = (left & oneEnding) != 0;
                boolean otherReads = (right & otherEnding) != 0;
                if (oneReads != otherReads) {
                    return i;
                }
                for (int letter = 1; letter <= INPUT_LETTERS; letter++) {
                    reach(one.follow(left, letter), other.follow(right, letter), i, letter);
                }
            }
            return NONE;
        }

        private void reach(int left, int right, int from, int letter) {
            int pair = left << MOST_STATES | right;
            if (pair < 0 || pair >= MOST || seen[pair] || count >= MOST) {
                return;
            }
            seen[pair] = true;
            pairs[count] = pair;
            before[count] = from;
            letters[count] = letter;
            count++;
        }

        private void spell(int found, Word shown) {
            shown.clear();
            int at = found;
            for (int k = 0; k < MOST && at > 0; k++) {
                shown.add(letters[at]);
                at = before[at];
            }
            shown.reverse();
        }
    }

    /** The least WORD of those offered, and the next one. */
    private static final class TwoLeast {
        int count;
        final Word least;
        final Word next;

        TwoLeast(int room) {
            count = 0;
            least = new Word(room);
            next = new Word(room);
        }

        void clear() {
            count = 0;
        }

        void offer(Word word) {
            if (count == 0) {
                least.become(word);
                count = 1;
                return;
            }
            int order = word.compareWith(least);
            if (order < 0) {
                next.become(least);
                least.become(word);
                count = 2;
            } else if (order > 0 && (count == 1 || word.compareWith(next) < 0)) {
                next.become(word);
                count = 2;
            }
        }
    }

    /** The WITNESS and its outputs. Of what leads to a STATE the two least WORDS lead to the two least outputs. */
    private static final class Witness {
        boolean there;
        final Word word;
        final Word[] written;
        private final boolean[] has;
        private final TwoLeast total;
        private final Word candidate;
        private TwoLeast[] now;
        private TwoLeast[] behind;

        Witness() {
            there = false;
            word = new Word(SHOWN_ROOM);
            written = makeWords(2, SHOWN_OUTPUT_ROOM);
            has = new boolean[2];
            total = new TwoLeast(SHOWN_OUTPUT_ROOM);
            candidate = new Word(SHOWN_OUTPUT_ROOM);
            now = new TwoLeast[MOST_STATES];
            behind = new TwoLeast[MOST_STATES];
            for (int q = 0; q < MOST_STATES; q++) {
                now[q] = new TwoLeast(SHOWN_OUTPUT_ROOM);
                behind[q] = new TwoLeast(SHOWN_OUTPUT_ROOM);
            }
        }

        boolean hasWritten(int which) {
            return there && which >= 0 && which < 2 && has[which];
        }

        void tellOutputsApart(Machine machine, Word shown) {
            there = true;
            word.become(shown);
            write(machine);
            has[0] = total.count > 0;
            written[0].become(total.least);
            has[1] = total.count > 1;
            written[1].become(total.next);
        }

        void tellMachinesApart(Machine one, Machine other, Word shown) {
            there = true;
            word.become(shown);
            write(one);
            has[0] = total.count > 0;
            written[0].become(total.least);
            write(other);
            has[1] = total.count > 0;
            written[1].become(total.least);
        }

        private void write(Machine machine) {
            begin(machine);
            for (int k = 0; k < word.length; k++) {
                for (int a = 0; a < machine.arcs; a++) {
                    if (machine.letter[a] == word.letters[k]) {
                        offerAll(now[machine.from[a]], machine.word[a], behind[machine.to[a]]);
                    }
                }
                turn();
            }
            total.clear();
            for (int q = 0; q < machine.states; q++) {
                if (machine.hasEnd(q)) {
                    offerAll(now[q], machine.end[q], total);
                }
            }
        }

        private void begin(Machine machine) {
            candidate.clear();
            for (int q = 0; q < MOST_STATES; q++) {
                behind[q].clear();
                now[q].clear();
                if (holds(machine.beginning, q)) {
                    now[q].offer(candidate);
                }
            }
        }

        private void turn() {
            TwoLeast[] old = now;
            now = behind;
            behind = old;
            for (int q = 0; q < MOST_STATES; q++) {
                behind[q].clear();
            }
        }

        private void offerAll(TwoLeast source, int label, TwoLeast goal) {
            if (source.count > 0) {
                candidate.become(source.least);
                candidate.addNumber(label);
                goal.offer(candidate);
            }
            if (source.count > 1) {
                candidate.become(source.next);
                candidate.addNumber(label);
                goal.offer(candidate);
            }
        }
    }

    /** The pairs of USEFUL STATES with their DELAYS, level by level, each once. */
    private static final class Twins {
        static final int MOST = 1000;
        static final int LONGEST = LONGEST_LABEL * MOST_STATES * MOST_STATES;
        static final int ROOM = LONGEST + LONGEST_LABEL;
        static final int BUCKETS = 1024;

        int levels;
        int count;
        private int usefulStates;
        private int limit;
        private boolean tooLong;
        private final Pair[] pairs;
        private final int[] heads;
        private final int[] links;

        Twins() {
            levels = 0;
            count = 0;
            pairs = new Pair[MOST + 2];
            for (int i = 0; i < MOST + 2; i++) {
                pairs[i] = new Pair(ROOM);
            }
            heads = new int[BUCKETS];
            links = new int[MOST + 2];
        }

        int judge(Machine machine) {
            begin(machine);
            int start = 0;
            for (int level = 0; level <= MOST + 1 && count > start; level++) {
                levels++;
                if (tooLong) {
                    return 0;
                }
                if (count > MOST) {
                    return UNTOLD;
                }
                int end = count;
                for (int i = start; i < end; i++) {
                    lead(machine, i);
                }
                start = end;
            }
            return 1;
        }

        private void begin(Machine machine) {
            levels = 0;
            count = 0;
            usefulStates = machine.usefulStates();
            limit = longestArc(machine) * Integer.bitCount(usefulStates) * Integer.bitCount(usefulStates);
            tooLong = false;
            Arrays.fill(heads, NONE);
            int beginning = machine.beginning & usefulStates;
            for (int p = 0; p < machine.states; p++) {
                for (int q = 0; q < machine.states; q++) {
                    if (holds(beginning, p) && holds(beginning, q)) {
                        pairs[count].begin(p, q);
                        keep();
                    }
                }
            }
        }

        private int longestArc(Machine machine) {
            int longest = 0;
            for (int a = 0; a < machine.arcs; a++) {
                if (holds(usefulStates, machine.from[a]) && holds(usefulStates, machine.to[a])) {
                    int word = machine.word[a];
                    int length = word == 0 ? 0 : word < 10 ? 1 : word < 100 ? 2 : 3;
                    longest = Math.max(longest, length);
                }
            }
            return longest;
        }

        private void lead(Machine machine, int i) {
            for (int a = 0; a < machine.arcs; a++) {
                if (machine.from[a] == pairs[i].first && holds(usefulStates, machine.to[a])) {
                    pairUp(machine, a, i);
                }
            }
        }

        private void pairUp(Machine machine, int a, int i) {
            for (int b = 0; b < machine.arcs; b++) {
                if (machine.from[b] != pairs[i].second || machine.letter[b] != machine.letter[a]
                        || !holds(usefulStates, machine.to[b])) {
                    continue;
                }
                Pair made = pairs[count];
                made.first = machine.to[a];
                made.second = machine.to[b];
                made.follow(pairs[i], machine.word[a], machine.word[b]);
                keep();
            }
        }

        /** More than MOST pairs are counted as MOST + 1, but the rest of a level may still be too long. */
        private void keep() {
            Pair made = pairs[count];
            if (made.longerSide() > limit) {
                tooLong = true;
            }
            if (count > MOST) {
                return;
            }
            int bucket = made.hash() & BUCKETS - 1;
            int at = heads[bucket];
            for (int k = 0; k <= MOST && at >= 0; k++) {
                if (pairs[at].isAlike(made)) {
                    return;
                }
                at = links[at];
            }
            links[count] = heads[bucket];
            heads[bucket] = count;
            count++;
        }
    }

    /** The SETS of a SEQUENTIAL machine, with what is written between them. */
    private static final class Sets {
        static final int MOST = 100;
        static final int REST_ROOM = Twins.LONGEST + LONGEST_LABEL;

        // What may be read from a SET at all has, to the nearest END, 5 ARCS and that END behind a rest.
        static final int COMMON_ROOM = REST_ROOM + MOST_STATES * LONGEST_LABEL;
        static final int WRITTEN_ROOM = REST_ROOM + COMMON_ROOM;

        int count;
        final int[] members;
        final Word[] rests;
        final int[] nexts;
        final Word[] written;
        private final Word[] made;
        private int madeMembers;
        private int usefulStates;

        Sets() {
            count = 0;
            members = new int[MOST];
            rests = makeWords(MOST * MOST_STATES, REST_ROOM);
            nexts = new int[MOST * INPUT_LETTERS];
            written = makeWords(MOST * INPUT_LETTERS, WRITTEN_ROOM);
            made = makeWords(MOST_STATES, REST_ROOM);
        }

        /** False, and a count of MOST + 1, if there would be more. */
        boolean make(Machine machine) {
            count = 0;
            usefulStates = machine.usefulStates();
            madeMembers = machine.beginning & usefulStates;
            if (madeMembers == 0) {
                return true;
            }
            for (int q = 0; q < MOST_STATES; q++) {
                made[q].clear();
            }
            place();
            for (int s = 0; s < count && s < MOST; s++) {
                for (int letter = 1; letter <= INPUT_LETTERS; letter++) {
                    lead(machine, s, letter);
                    if (count > MOST) {
                        return false;
                    }
                }
            }
            return true;
        }

        private void lead(Machine machine, int set, int letter) {
            int way = set * INPUT_LETTERS + letter - 1;
            nexts[way] = NONE;
            written[way].clear();
            gather(machine, set, letter);
            if (madeMembers == 0) {
                return;
            }
            writeCommon(written[way]);
            nexts[way] = place();
        }

        private void gather(Machine machine, int set, int letter) {
            madeMembers = 0;
            for (int a = 0; a < machine.arcs; a++) {
                int to = machine.to[a];
                if (machine.letter[a] != letter || !holds(members[set], machine.from[a])
                        || !holds(usefulStates, to) || holds(madeMembers, to)) {
                    continue;
                }
                madeMembers |= 1 << to;
                made[to].become(rests[set * MOST_STATES + machine.from[a]]);
                made[to].addNumber(machine.word[a]);
            }
        }

        private void writeCommon(Word goal) {
            int one = 0;
            while (one < MOST_STATES - 1 && !holds(madeMembers, one)) {
                one++;
            }
            int common = made[one].length;
            for (int q = 0; q < MOST_STATES; q++) {
                if (holds(madeMembers, q)) {
                    common = Math.min(common, made[one].commonWith(made[q]));
                }
            }
            goal.become(made[one]);
            goal.shortenTo(common);
            for (int q = 0; q < MOST_STATES; q++) {
                if (holds(madeMembers, q)) {
                    made[q].dropFirst(common);
                }
            }
        }

        private int place() {
            for (int s = 0; s < count; s++) {
                if (isMade(s)) {
                    return s;
                }
            }
            if (count >= MOST) {
                count = MOST + 1;
                return NONE;
            }
            members[count] = madeMembers;
            for (int q = 0; q < MOST_STATES; q++) {
                if (holds(madeMembers, q)) {
                    rests[count * MOST_STATES + q].become(made[q]);
                }
            }
            count++;
            return count - 1;
        }

        private boolean isMade(int set) {
            if (members[set] != madeMembers) {
                return false;
            }
            for (int q = 0; q < MOST_STATES; q++) {
                if (holds(madeMembers, q) && !rests[set * MOST_STATES + q].isAlike(made[q])) {
                    return false;
                }
            }
            return true;
        }
    }

    /** The LEAST machine: it takes the SETS' written WORDS over and moves letters in them to where they come early. */
    private static final class Least {
        int states;
        int arcs;
        private final Sets sets;
        private final boolean[] ended;
        private final Word[] ends;
        private final Word[] commons;
        private final int[] known;
        private final int[] blocks;
        private final int[] finer;
        private final int[] numbers;
        private final int[] chosen;

        Least(Sets sets) {
            this.sets = sets;
            states = 0;
            arcs = 0;
            ended = new boolean[Sets.MOST];
            ends = makeWords(Sets.MOST, Sets.REST_ROOM);
            commons = makeWords(Sets.MOST, Sets.COMMON_ROOM);
            known = new int[Sets.MOST];
            blocks = new int[Sets.MOST];
            finer = new int[Sets.MOST];
            numbers = new int[Sets.MOST];
            chosen = new int[Sets.MOST];
        }

        void make(Machine machine) {
            for (int s = 0; s < sets.count; s++) {
                setEnd(machine, s);
            }
            guessCommons();
            shortenCommons();
            writeEarly();
            part();
            number();
        }

        private void setEnd(Machine machine, int set) {
            ended[set] = false;
            for (int q = 0; q < machine.states && !ended[set]; q++) {
                if (holds(sets.members[set], q) && machine.hasEnd(q)) {
                    ended[set] = true;
                    ends[set].become(sets.rests[set * MOST_STATES + q]);
                    ends[set].addNumber(machine.end[q]);
                }
            }
        }

        /** One thing that may be written from each SET, by as few letters as can be: what all have in common is in it. */
        private void guessCommons() {
            int found = 0;
            for (int s = 0; s < sets.count; s++) {
                known[s] = NONE;
                if (ended[s]) {
                    known[s] = 0;
                    commons[s].become(ends[s]);
                    found++;
                }
            }
            for (int round = 1; round <= sets.count && found < sets.count; round++) {
                for (int s = 0; s < sets.count; s++) {
                    if (known[s] == NONE && guess(s, round)) {
                        found++;
                    }
                }
            }
        }

        private boolean guess(int set, int round) {
            for (int way = set * INPUT_LETTERS; way < (set + 1) * INPUT_LETTERS; way++) {
                int next = sets.nexts[way];
                if (next != NONE && known[next] == round - 1) {
                    known[set] = round;
                    commons[set].become(sets.written[way]);
                    commons[set].addWord(commons[next]);
                    return true;
                }
            }
            return false;
        }

        private void shortenCommons() {
            boolean changed = true;
            for (int round = 0; changed && round <= Sets.MOST * Sets.COMMON_ROOM; round++) {
                changed = false;
                for (int s = 0; s < sets.count; s++) {
                    int length = commonLength(s);
                    if (length < commons[s].length) {
                        commons[s].shortenTo(length);
                        changed = true;
                    }
                }
            }
        }

        private int commonLength(int set) {
            Word common = commons[set];
            int length = common.length;
            if (ended[set]) {
                length = Math.min(length, common.commonWith(ends[set]));
            }
            for (int way = set * INPUT_LETTERS; way < (set + 1) * INPUT_LETTERS; way++) {
                int next = sets.nexts[way];
                if (next != NONE) {
                    length = Math.min(length, common.commonWith(sets.written[way], commons[next]));
                }
            }
            return length;
        }

        private void writeEarly() {
            for (int s = 0; s < sets.count; s++) {
                ends[s].dropFirst(commons[s].length);
                for (int way = s * INPUT_LETTERS; way < (s + 1) * INPUT_LETTERS; way++) {
                    int next = sets.nexts[way];
                    if (next != NONE) {
                        sets.written[way].addWord(commons[next]);
                        sets.written[way].dropFirst(commons[s].length);
                    }
                }
            }
        }

        /** A block is called by its first SET. */
        private void part() {
            for (int s = 0; s < sets.count; s++) {
                int first = 0;
                while (first < s && !writeAlike(first, s)) {
                    first++;
                }
                blocks[s] = first;
            }
            boolean changed = true;
            for (int round = 0; changed && round <= Sets.MOST; round++) {
                changed = refine();
            }
        }

        private boolean writeAlike(int one, int other) {
            if (ended[one] != ended[other] || ended[one] && !ends[one].isAlike(ends[other])) {
                return false;
            }
            for (int k = 0; k < INPUT_LETTERS; k++) {
                int way = one * INPUT_LETTERS + k;
                int otherWay = other * INPUT_LETTERS + k;
                if ((sets.nexts[way] == NONE) != (sets.nexts[otherWay] == NONE)
                        || !sets.written[way].isAlike(sets.written[otherWay])) {
                    return false;
                }
            }
            return true;
        }

        private boolean refine() {
            boolean changed = false;
            for (int s = 0; s < sets.count; s++) {
                int first = 0;
                while (first < s && (blocks[first] != blocks[s] || !goAlike(first, s))) {
                    first++;
                }
                finer[s] = first;
                changed |= first != blocks[s];
            }
            System.arraycopy(finer, 0, blocks, 0, Sets.MOST);
            return changed;
        }

        private boolean goAlike(int one, int other) {
            for (int k = 0; k < INPUT_LETTERS; k++) {
                int next = sets.nexts[one * INPUT_LETTERS + k];
                int otherNext = sets.nexts[other * INPUT_LETTERS + k];
                if (next != NONE && otherNext != NONE && blocks[next] != blocks[otherNext]) {
                    return false;
                }
            }
            return true;
        }

        private void number() {
            states = 0;
            arcs = 0;
            Arrays.fill(numbers, NONE);
            if (sets.count > 0) {
                call(0);
            }
            for (int q = 0; q < states && q < Sets.MOST; q++) {
                for (int k = 0; k < INPUT_LETTERS; k++) {
                    int next = sets.nexts[chosen[q] * INPUT_LETTERS + k];
                    if (next != NONE) {
                        arcs++;
                        call(next);
                    }
                }
            }
        }

        private void call(int set) {
            int block = blocks[set];
            if (numbers[block] == NONE && states < Sets.MOST) {
                numbers[block] = states;
                chosen[states] = set;
                states++;
            }
        }

        int stateBehind(int q, int letter) {
            if (q < 0 || q >= states || !isInputLetter(letter)) {
                return NONE;
            }
            int next = sets.nexts[chosen[q] * INPUT_LETTERS + letter - 1];
            return next == NONE ? NONE : numbers[blocks[next]];
        }

        /** Null without such a WORD. */
        Word wordOf(int q, int letter) {
            if (q == NONE) {
                return beginWord();
            }
            if (q < 0 || q >= states) {
                return null;
            }
            if (letter == 0) {
                return ended[chosen[q]] ? ends[chosen[q]] : null;
            }
            if (stateBehind(q, letter) == NONE) {
                return null;
            }
            return sets.written[chosen[q] * INPUT_LETTERS + letter - 1];
        }

        private Word beginWord() {
            if (states == 0) {
                commons[0].clear();
            }
            return commons[0];
        }

        boolean accepts(Word input) {
            int q = states > 0 ? 0 : NONE;
            for (int k = 0; k < input.length && q != NONE; k++) {
                q = stateBehind(q, input.letters[k]);
            }
            return q != NONE && wordOf(q, 0) != null;
        }

        /** For a WORD that it accepts. */
        void translate(Word input, Word goal) {
            goal.become(beginWord());
            int q = 0;
            for (int k = 0; k < input.length; k++) {
                addWordOf(q, input.letters[k], goal);
                q = stateBehind(q, input.letters[k]);
            }
            addWordOf(q, 0, goal);
        }

        private void addWordOf(int q, int letter, Word goal) {
            Word word = wordOf(q, letter);
            if (word != null) {
                goal.addWord(word);
            }
        }

        boolean fitsMachine() {
            if (states > MOST_STATES || beginWord().length > 0) {
                return false;
            }
            for (int q = 0; q < states; q++) {
                for (int letter = 0; letter <= INPUT_LETTERS; letter++) {
                    Word word = wordOf(q, letter);
                    if (word != null && word.length > LONGEST_LABEL) {
                        return false;
                    }
                }
            }
            return true;
        }

        void fill(Machine machine) {
            machine.renew(states);
            for (int q = 0; q < states; q++) {
                machine.setBeginning(q, q == 0);
                Word end = wordOf(q, 0);
                machine.end[q] = end == null ? NONE : end.number();
                for (int letter = 1; letter <= INPUT_LETTERS; letter++) {
                    Word word = wordOf(q, letter);
                    if (word != null) {
                        machine.addArc(q, letter, stateBehind(q, letter), word.number());
                    }
                }
            }
        }
    }
}
