/** Each sentence of promises 1 to 11 that names a boundary case: the last that is taken, and the first that is refused. */
final class MachineEdgesTest {
    private static final int NONE = TransducerBench.NONE;
    private static final int WITHOUT = -2;
    private static final int LOWEST = Integer.MIN_VALUE;
    private static final int HIGHEST = Integer.MAX_VALUE;
    private static final int[] NO_MACHINES = {LOWEST, -2, -1, 2, 3, HIGHEST};
    private static final Check CHECK = new Check();
    private static final Edges EDGES = new Edges(CHECK);

    public static void main(String[] args) {
        promise1();
        promise2New();
        promise2Refused();
        promise3();
        promise3Refused();
        promise4();
        promise4None();
        promise4Refused();
        promise5();
        promise5Refused();
        promise5Thirty();
        promise6();
        promise6EachPart();
        promise6Refused();
        promise7Latest();
        promise7BeginWord();
        promise7SixStates();
        promise7ThreeLetters();
        promise7Becomes();
        promise7Refused();
        promise8();
        promise9();
        promise10Words();
        promise10SixtyPairs();
        promise10Refused();
        promise11Outputs();
        promise11Letters();
        promise11Latest();
        CHECK.finish("MachineEdgesTest");
    }

    private static void promise1() {
        CHECK.sentence("Both machines have no STATES.");
        TransducerBench x = new TransducerBench();
        for (int t = 0; t < 2; t++) {
            for (int what = 0; what <= 2; what++) {
                CHECK.due("size()", x.size(t, what), 0);
            }
            CHECK.due("useful()", x.useful(t, 0), NONE);
            CHECK.due("begins()", x.begins(t, 0, true), false);
            CHECK.due("ends()", x.ends(t, 0, NONE), false);
            CHECK.due("arc()", x.arc(t, 0, 1, 0, 0), NONE);
            CHECK.due("apply()", x.apply(t, 0), 0);
            CHECK.due("functional()", x.functional(t), 1);
        }
        CHECK.due("everything", View.everything(new TransducerBench()), "size 0 0 0 useful -1 -1 -1 -1 -1 -1"
                + "size 0 0 0 useful -1 -1 -1 -1 -1 -1 output none output none output none output none"
                + " shown none: none, none acted  told -1 -1 -1 -1 -1 least none");
        CHECK.due("readers()", x.readers(), 1);
        CHECK.due("same()", x.same(), 1);
        CHECK.due("sequential()", x.sequential(0), 1);
    }

    private static void promise2New() {
        CHECK.sentence("A machine is new, with n STATES (0 to 6), none BEGINNING, no ENDS, no ARCS: true");
        for (int n = 0; n <= 6; n++) {
            TransducerBench x = new TransducerBench();
            Make.full(x, 0);
            Make.full(x, 1);
            CHECK.due("machine()", x.machine(1, n), true);
            CHECK.due("STATES", x.size(1, 0), n);
            CHECK.due("ARCS", x.size(1, 1), 0);
            CHECK.due("the other machine's", x.size(0, 0) * 100 + x.size(0, 1), 630);
            for (int q = 0; q < n; q++) {
                x.ends(1, q, 1);
            }
            CHECK.due("none BEGINNING", x.apply(1, 0), 0);
            for (int q = 0; q < n; q++) {
                x.begins(1, q, true);
                x.ends(1, q, NONE);
            }
            CHECK.due("machine() again", x.machine(1, n), true);
            for (int q = 0; q < n; q++) {
                x.begins(1, q, true);
            }
            CHECK.due("no ENDS", x.apply(1, 0), 0);
            CHECK.due("no ARCS", n == 0 ? 1 : x.arc(1, 0, 1, 0, 1), 1);
        }
    }

    private static void promise2Refused() {
        CHECK.sentence("false, and nothing happens: there is no such machine, or n.");
        int[] numbers = {LOWEST, -2, -1, 7, 8, HIGHEST};
        for (int n : numbers) {
            EDGES.nothingHappens("machine(0, " + n + ")", x -> Edges.bit(x.machine(0, n)), 0);
            EDGES.nothingHappens("machine(1, " + n + ")", x -> Edges.bit(x.machine(1, n)), 0);
        }
        for (int t : NO_MACHINES) {
            EDGES.nothingHappens("machine(" + t + ", 3)", x -> Edges.bit(x.machine(t, 3)), 0);
            EDGES.nothingHappens("machine(" + t + ", 0)", x -> Edges.bit(x.machine(t, 0)), 0);
            EDGES.nothingHappens("machine(" + t + ", 7)", x -> Edges.bit(x.machine(t, 7)), 0);
        }
    }

    private static void promise3() {
        CHECK.sentence("A STATE is BEGINNING, or not: true");
        TransducerBench x = Edges.bench(6, "0/1 1/2 2/3 3/4 4/5 5/6");
        CHECK.due("the first one", x.begins(0, 0, true), true);
        CHECK.due("the last one", x.begins(0, 5, true), true);
        CHECK.due("both", View.outputs(x, 0, 0), "<1> <6>");
        CHECK.due("once more", x.begins(0, 5, true), true);
        CHECK.due("both still", View.outputs(x, 0, 0), "<1> <6>");
        CHECK.due("not", x.begins(0, 0, false), true);
        CHECK.due("the last one alone", View.outputs(x, 0, 0), "<6>");
        CHECK.due("not, once more", x.begins(0, 0, false), true);
        CHECK.due("the last one still", View.outputs(x, 0, 0), "<6>");
        CHECK.due("the last one not", x.begins(0, 5, false), true);
        CHECK.due("none", View.outputs(x, 0, 0), "");
    }

    private static void promise3Refused() {
        CHECK.sentence("A STATE is BEGINNING, or not: true; false without such.");
        int[] states = {LOWEST, -2, -1, 3, 4, 5, 6, 31, 32, HIGHEST};
        for (int q : states) {
            EDGES.nothingHappens("begins(0, " + q + ")", x -> Edges.bit(x.begins(0, q, true)), 0);
            EDGES.nothingHappens("begins(1, " + q + ", false)", x -> Edges.bit(x.begins(1, q, false)), 0);
        }
        for (int t : NO_MACHINES) {
            EDGES.nothingHappens("begins(" + t + ", 1)", x -> Edges.bit(x.begins(t, 1, true)), 0);
            EDGES.nothingHappens("begins(" + t + ", 0, false)", x -> Edges.bit(x.begins(t, 0, false)), 0);
        }
        EDGES.nothingHappens("begins() without STATES", Edges::makeNothing, x -> Edges.bit(x.begins(0, 0, true)), 0);
        EDGES.nothingHappens("begins() of a seventh", Edges::makeFull, x -> Edges.bit(x.begins(0, 6, false)), 0);
    }

    private static void promise4() {
        CHECK.sentence("The END of a STATE (a number; NONE: it has none): true");
        TransducerBench x = Edges.bench(6, ">0 >5");
        int[] words = {0, 1, 9, 11, 19, 91, 99, 111, 119, 191, 911, 999};
        for (int word : words) {
            for (int q = 0; q < 6; q += 5) {
                CHECK.due("ends(" + q + ", " + word + ")", x.ends(0, q, word), true);
                CHECK.due("outputs", View.outputs(x, 0, 0), "<" + (word == 0 ? "" : "" + word) + ">");
                CHECK.due("ends(" + q + ") without", x.ends(0, q, NONE), true);
            }
        }
    }

    private static void promise4None() {
        CHECK.sentence("NONE: it has none");
        TransducerBench x = Edges.bench(2, ">0 >1 0/1 1/2");
        CHECK.due("ends()", x.ends(0, 0, NONE), true);
        CHECK.due("the other one's", View.outputs(x, 0, 0), "<2>");
        CHECK.due("ends() where there is none", x.ends(0, 0, NONE), true);
        CHECK.due("the other one's still", View.outputs(x, 0, 0), "<2>");
        CHECK.due("ends()", x.ends(0, 1, NONE), true);
        CHECK.due("none", View.outputs(x, 0, 0), "");
        CHECK.due("USEFUL ones", x.size(0, 2), 0);
        CHECK.due("ends() without letters is no NONE", x.ends(0, 1, 0), true);
        CHECK.due("it has one", View.outputs(x, 0, 0), "<>");
    }

    private static void promise4Refused() {
        CHECK.sentence("false without such a STATE, or if the number is no output WORD of at most 3 letters.");
        int[] states = {LOWEST, -2, -1, 3, 4, 6, HIGHEST};
        for (int q : states) {
            EDGES.nothingHappens("ends(0, " + q + ")", x -> Edges.bit(x.ends(0, q, 1)), 0);
            EDGES.nothingHappens("ends(1, " + q + ", NONE)", x -> Edges.bit(x.ends(1, q, NONE)), 0);
        }
        for (int t : NO_MACHINES) {
            EDGES.nothingHappens("ends(" + t + ", 0)", x -> Edges.bit(x.ends(t, 0, 1)), 0);
            EDGES.nothingHappens("ends(" + t + ", 0, NONE)", x -> Edges.bit(x.ends(t, 0, NONE)), 0);
        }
        int[] words = {LOWEST, -999, -11, -3, -2, 10, 20, 90, 100, 101, 109, 110, 190, 900, 901, 990, 1000, 1001,
                1110, 1111,
            1999, 9999, 11111, 1_111_111_111, HIGHEST};
        for (int word : words) {
            EDGES.nothingHappens("ends(0, 0, " + word + ")", x -> Edges.bit(x.ends(0, 0, word)), 0);
        }
    }

    private static void promise5() {
        CHECK.sentence("An ARC: how many the machine has.");
        TransducerBench x = Edges.bench(6, ">0 >5 0/ 5/");
        CHECK.due("the lowest", x.arc(0, 0, 1, 0, 0), 1);
        CHECK.due("the highest", x.arc(0, 5, 3, 5, 999), 2);
        CHECK.due("the highest of none in the other machine", x.machine(1, 1) ? x.arc(1, 0, 3, 0, 999) : NONE, 1);
        CHECK.due("the lowest, once more", x.arc(0, 0, 1, 0, 0), 2);
        CHECK.due("the highest, once more", x.arc(0, 5, 3, 5, 999), 2);
        CHECK.due("size()", x.size(0, 1), 2);
        CHECK.due("by 1", View.outputs(x, 0, 1), "<>");
        CHECK.due("by 2", View.outputs(x, 0, 2), "");
        CHECK.due("by 3", View.outputs(x, 0, 3), "<999>");
    }

    private static void promise5Refused() {
        CHECK.sentence("NONE, and nothing happens: a STATE, letter, WORD is none");
        int[] states = {LOWEST, -2, -1, 3, 4, 6, HIGHEST};
        for (int q : states) {
            EDGES.nothingHappens("arc() from " + q, x -> x.arc(0, q, 1, 0, 9), NONE);
            EDGES.nothingHappens("arc() to " + q, x -> x.arc(1, 0, 1, q, 9), NONE);
        }
        int[] letters = {LOWEST, -2, -1, 0, 4, 5, 9, 11, 12, HIGHEST};
        for (int letter : letters) {
            EDGES.nothingHappens("arc() by " + letter, x -> x.arc(0, 0, letter, 0, 9), NONE);
        }
        int[] words = {LOWEST, -999, -2, -1, 10, 100, 101, 110, 990, 1000, 1111, 9999, 11111, 1_111_111_111, HIGHEST};
        for (int word : words) {
            EDGES.nothingHappens("arc() writing " + word, x -> x.arc(0, 0, 1, 0, word), NONE);
        }
        for (int t : NO_MACHINES) {
            EDGES.nothingHappens("arc() of machine " + t, x -> x.arc(t, 0, 1, 0, 9), NONE);
        }
        EDGES.nothingHappens("arc() from a seventh", Edges::makeFull, x -> x.arc(0, 6, 1, 0, 1), NONE);
    }

    private static void promise5Thirty() {
        CHECK.sentence("or there would be more than 30");
        EDGES.nothingHappens("the 31st", Edges::makeFull, x -> x.arc(0, 0, 1, 5, 1), NONE);
        EDGES.nothingHappens("the 31st with another WORD", Edges::makeFull, x -> x.arc(0, 0, 1, 0, 9), NONE);
        EDGES.nothingHappens("one that is there makes no 31st", Edges::makeFull, x -> x.arc(0, 0, 1, 0, 1), 30);
        EDGES.nothingHappens("the last one makes no 31st", Edges::makeFull, x -> x.arc(0, 5, 2, 3, 5), 30);
    }

    private static void promise6() {
        CHECK.sentence("Machine t becomes what the other one is: true");
        for (int t = 0; t < 2; t++) {
            TransducerBench x = new TransducerBench();
            Make.full(x, 1 - t);
            CHECK.due("copy() of a full one", x.copy(t), true);
            CHECK.due("STATES, ARCS, USEFUL ones", x.size(t, 0) * 1000 + x.size(t, 1) * 10 + x.size(t, 2), 6306);
            CHECK.due("what is the same", x.readers() == 1 && x.arc(t, 0, 1, 0, 9) == NONE && x.arc(t, 0, 1, 0,
                    1) == 30, true);
            CHECK.due("its OUTPUTS", View.outputs(x, t, 1), View.outputs(x, 1 - t, 1));
            x.machine(1 - t, 0);
            CHECK.due("the other one's", x.size(t, 1), 30);
            CHECK.due("copy() of one without STATES", x.copy(t), true);
            CHECK.due("without", x.size(t, 0) + x.size(t, 1), 0);
            Make.machine(x, 1 - t, 2, ">0 1/5 0-1:7-1");
            Make.full(x, t);
            CHECK.due("copy() of a small one", x.copy(t), true);
            CHECK.due("small", x.size(t, 0) * 1000 + x.size(t, 1) * 10 + x.size(t, 2), 2012);
            CHECK.due("BEGINNING, END, ARC", View.outputs(x, t, 0) + View.outputs(x, t, 1), "<75>");
            x.ends(t, 1, 6);
            CHECK.due("the other one stays", View.outputs(x, 1 - t, 1), "<75>");
            CHECK.due("copy() back", x.copy(1 - t), true);
            CHECK.due("as it is", View.outputs(x, 1 - t, 1), "<76>");
        }
    }

    private static void promise6EachPart() {
        CHECK.sentence("Machine t becomes what the other one is");
        TransducerBench x = new TransducerBench();
        Make.machine(x, 0, 6, ">2 >4 0/7 5/8 3-3:9-5 2-2:12-3 4-1:-0 2-1:3-5 4-2:-4");
        Make.machine(x, 1, 6, ">1 >3 >5 2/1 4/ 1-1:5-2 3-2:56-4 5-3:-0 1-2:-1 0-1:4-3 0-3:4-3 0-3:5-3");
        CHECK.due("copy()", x.copy(1), true);
        CHECK.due("copy() again", x.copy(1), true);
        CHECK.due("STATES, ARCS, USEFUL ones", x.size(1, 0) * 100 + x.size(1, 1) * 10 + x.size(1, 2), 655);
        int[] words = {0, 1, 2, 3, 11, 12, 13, 21, 22, 23, 31, 221};
        String[] due = {"", "<7> <38>", "", "", "", "", "", "<7>", "", "<1298>", "", "<7>"};
        for (int i = 0; i < words.length; i++) {
            CHECK.due("outputs of " + words[i], View.outputs(x, 1, words[i]), due[i]);
            CHECK.due("outputs of the other one", View.outputs(x, 0, words[i]), due[i]);
        }
    }

    private static void promise6Refused() {
        CHECK.sentence("Machine t becomes what the other one is: true; false without such.");
        for (int t : NO_MACHINES) {
            EDGES.nothingHappens("copy(" + t + ")", x -> Edges.bit(x.copy(t)), 0);
        }
    }

    private static void promise7Latest() {
        CHECK.sentence("(there is none unless the latest sequential() that was 0, 1 or 2 was 1)");
        EDGES.nothingHappens("take() ahead of any", Edges::makeNothing, x -> Edges.bit(x.take(0)), 0);
        TransducerBench x = Edges.bench(1, ">0 0/ 0-1:1-0 0-1:2-0");
        CHECK.due("a NONE", x.sequential(0), NONE);
        CHECK.due("take() ahead of any but a NONE", x.take(1), false);
        Make.oneState(x, 0, 0, 5);
        CHECK.due("a 1", x.sequential(0), 1);
        CHECK.due("take() then", x.take(1), true);
        CHECK.due("take() once more", x.take(1), true);
        x.arc(0, 0, 1, 0, 6);
        CHECK.due("a NONE behind it", x.sequential(0), NONE);
        CHECK.due("no machine behind it", x.sequential(2), NONE);
        CHECK.due("take() still", x.take(1), true);
        Make.guess(x, 0);
        CHECK.due("a 0", x.sequential(0), 0);
        CHECK.due("take() no more", x.take(1), false);
        CHECK.due("as it was", x.size(1, 0), 1);
        CHECK.due("a 1 again", x.sequential(1), 1);
        CHECK.due("take() again", x.take(0), true);
        Make.tokens(x, 0);
        CHECK.due("a 2", x.sequential(0), 2);
        CHECK.due("take() no more then", x.take(1), false);
        for (int asked = 4; asked < 24; asked++) {
            CHECK.due("24 times", x.sequential(1), 1);
        }
        Make.guess(x, 0);
        CHECK.due("a -2 behind a 1", x.sequential(0), WITHOUT);
        CHECK.due("take() of the 1", x.take(0), true);
        CHECK.due("it is taken", x.size(0, 0), 1);
    }

    private static void promise7BeginWord() {
        CHECK.sentence("where that has a BEGIN WORD of no letters (or no STATES)");
        CHECK.due("no letters", EDGES.sequential(2, ">0 1/ 0-1:1-1 0-2:2-1").take(1), true);
        CHECK.due("a letter", EDGES.sequential(2, ">0 1/ 0-1:1-1 0-2:1-1").take(1), false);
        CHECK.due("letters", EDGES.sequential(2, ">0 1/ 0-1:123-1").take(1), false);
        TransducerBench x = EDGES.sequential(2, ">0 0-1:123-1");
        Make.full(x, 1);
        CHECK.due("no STATES", x.take(1), true);
        CHECK.due("none", x.size(1, 0) + x.size(1, 1), 0);
    }

    private static void promise7SixStates() {
        CHECK.sentence("at most 6 STATES");
        String rounds = ">0 0-1:-1 1-1:-2 2-1:-1 0-1:-3 3-1:-4 4-1:-5 5-1:-3 1/ 3/";
        TransducerBench six = EDGES.sequential(6, rounds);
        CHECK.due("six", six.told(3), 6);
        CHECK.due("take() of six", six.take(1), true);
        CHECK.due("six are taken", six.size(1, 0) * 10 + six.size(1, 1), 66);
        CHECK.due("they are the same", six.same(), 1);
        TransducerBench seven = EDGES.sequential(6, rounds + " 0/");
        CHECK.due("seven", seven.told(3), 7);
        CHECK.due("take() of seven", seven.take(1), false);
        CHECK.due("nothing is taken", seven.size(1, 0), 0);
    }

    private static void promise7ThreeLetters() {
        CHECK.sentence("WORDS of at most 3 letters");
        CHECK.due("three of an ARC", EDGES.sequential(3, ">0 0/ 0-1:12-1 1-2:3-2 2/").take(1), true);
        CHECK.due("four of an ARC", EDGES.sequential(3, ">0 0/ 0-1:12-1 1-2:34-2 2/").take(1), false);
        CHECK.due("four of the last ARC", EDGES.sequential(4, ">0 0/ 0-1:-1 1/ 0-2:-1 1-3:12-2 2-3:34-3 3/").take(1), false);
        CHECK.due("three of an END", EDGES.sequential(4, ">0 0-1:1-1 0-1:-2 1/22 2-2:3-3 3/").take(1), true);
        CHECK.due("four of an END", EDGES.sequential(4, ">0 0-1:1-1 0-1:-2 1/222 2-2:3-3 3/").take(1), false);
        CHECK.due("three of the first END", EDGES.sequential(1, ">0 0/123 0-1:3-0").take(1), true);
    }

    private static void promise7Becomes() {
        CHECK.sentence("Machine t becomes the LEAST machine");
        for (int t = 0; t < 2; t++) {
            TransducerBench x = EDGES.sequential(4, ">0 0-1:1-1 0-1:-2 1/22 2-2:3-3 3/ 3-3:4-0");
            Make.full(x, t);
            CHECK.due("the LEAST machine", View.least(x), " 0-1:-1 1/122 1-2:3-2 2/ 2-3:4-0");
            CHECK.due("take()", x.take(t), true);
            CHECK.due("STATES, ARCS, USEFUL ones", x.size(t, 0) * 100 + x.size(t, 1) * 10 + x.size(t, 2), 333);
            CHECK.due("BEGINNING alone is 0", View.outputs(x, t, 0) + View.outputs(x, t, 2) + View.outputs(x, t, 3),
                    "");
            CHECK.due("an END", View.outputs(x, t, 1), "<122>");
            CHECK.due("an ARC", View.outputs(x, t, 12), "<3>");
            CHECK.due("another ARC", View.outputs(x, t, 12312), "<343>");
            CHECK.due("no ARC", View.outputs(x, t, 11) + View.outputs(x, t, 122) + View.outputs(x, t, 123), "");
            CHECK.due("the LEAST machine stays", View.least(x), " 0-1:-1 1/122 1-2:3-2 2/ 2-3:4-0");
            CHECK.due("it is its own LEAST machine", x.sequential(t), 1);
            CHECK.due("once more", View.least(x), " 0-1:-1 1/122 1-2:3-2 2/ 2-3:4-0");
        }
    }

    private static void promise7Refused() {
        CHECK.sentence("false, and nothing happens, otherwise, without one, or without such a machine.");
        for (int t : NO_MACHINES) {
            EDGES.nothingHappens("take(" + t + ")", x -> Edges.bit(x.take(t)), 0);
        }
        for (int t = 0; t < 2; t++) {
            int goal = t;
            EDGES.nothingHappens("take() of a BEGIN WORD", MachineEdgesTest::makeBeginWord, x -> Edges.bit(x.take(goal)), 0);
            EDGES.nothingHappens("take() of long WORDS", MachineEdgesTest::makeLongWords, x -> Edges.bit(x.take(goal)), 0);
            EDGES.nothingHappens("take() of a 0", MachineEdgesTest::makeNotSequential, x -> Edges.bit(x.take(goal)), 0);
            EDGES.nothingHappens("take() of a 2", MachineEdgesTest::makeUntold, x -> Edges.bit(x.take(goal)), 0);
        }
    }

    private static void makeBeginWord(TransducerBench x) {
        Make.machine(x, 0, 2, ">0 1/ 0-1:1-1");
        x.sequential(0);
        Make.machine(x, 1, 3, ">0 0/5 0-1:12-1 1-2:3-2 2/ 2-1:44-0");
    }

    private static void makeLongWords(TransducerBench x) {
        Make.machine(x, 0, 3, ">0 0/5 0-1:12-1 1-2:34-2 2/ 2-1:44-0");
        x.sequential(0);
        Make.machine(x, 1, 2, ">0 1/ 0-1:1-1");
    }

    private static void makeNotSequential(TransducerBench x) {
        Edges.makeBusy(x);
        Make.guess(x, 0);
        x.sequential(0);
    }

    private static void makeUntold(TransducerBench x) {
        Edges.makeBusy(x);
        Make.tokens(x, 0);
        x.sequential(0);
    }

    private static void promise8() {
        CHECK.sentence("Of a machine what 0: STATES, 1: ARCS, 2: USEFUL STATES. NONE for others.");
        TransducerBench x = Edges.bench(6, ">0 1/ 0-1:-1 0-2:-1 0-3:-1 2-1:-1");
        CHECK.due("size(0, 0)", x.size(0, 0), 6);
        CHECK.due("size(0, 1)", x.size(0, 1), 4);
        CHECK.due("size(0, 2)", x.size(0, 2), 2);
        int[] others = {LOWEST, -2, -1, 3, 4, 256, HIGHEST};
        for (int what : others) {
            CHECK.due("size(0, " + what + ")", x.size(0, what), NONE);
        }
        for (int t : NO_MACHINES) {
            for (int what = 0; what <= 3; what++) {
                CHECK.due("size(" + t + ", " + what + ")", x.size(t, what), NONE);
            }
        }
        for (int n = 0; n <= 6; n++) {
            x.machine(1, n);
            CHECK.due("size(1, 0)", x.size(1, 0), n);
            CHECK.due("size(1, 1)", x.size(1, 1), 0);
            CHECK.due("size(1, 2)", x.size(1, 2), 0);
        }
        Make.full(x, 1);
        CHECK.due("the most ARCS", x.size(1, 1), 30);
        CHECK.due("the most USEFUL ones", x.size(1, 2), 6);
    }

    private static void promise9() {
        CHECK.sentence("Whether a STATE is USEFUL: 1, 0; NONE without it.");
        TransducerBench x = Edges.bench(5, ">0 4/ 0-1:-4 1-1:-4");
        int[] due = {1, 0, 0, 0, 1};
        for (int q = 0; q < 5; q++) {
            CHECK.due("useful(0, " + q + ")", x.useful(0, q), due[q]);
        }
        int[] others = {LOWEST, -32, -2, -1, 5, 6, 32, HIGHEST};
        for (int q : others) {
            CHECK.due("useful(0, " + q + ")", x.useful(0, q), NONE);
        }
        for (int t : NO_MACHINES) {
            CHECK.due("useful(" + t + ", 0)", x.useful(t, 0), NONE);
        }
        CHECK.due("useful() without STATES", x.useful(1, 0), NONE);
    }

    private static void promise10Words() {
        CHECK.sentence("How many OUTPUTS an input WORD (a number of at most 9 letters) has");
        TransducerBench x = Edges.bench(1, ">0 0/ 0-1:1-0 0-2:-0 0-3:3-0");
        int[] words = {0, 1, 2, 3, 11, 33, 123, 111_111_111, 123_123_123, 333_333_333, 333_333_331};
        for (int word : words) {
            CHECK.due("apply(" + word + ")", x.apply(0, word), 1);
        }
        int[] others = {LOWEST, -111, -2, -1, 4, 5, 9, 10, 14, 20, 41, 101, 110, 333_333_330, 333_333_334, 411_111_111,
            1_000_000_000, 1_111_111_111, 1_333_333_333, 2_111_111_111, 2_133_333_333, HIGHEST};
        for (int word : others) {
            CHECK.due("apply(" + word + ")", x.apply(0, word), NONE);
        }
        CHECK.due("none", Edges.bench(2, ">0 1/").apply(0, 0), 0);
        CHECK.due("of a machine without STATES", x.apply(1, 333_333_333), 0);
    }

    private static void promise10SixtyPairs() {
        CHECK.sentence("-2: behind some letter there are more than 60 pairs of a STATE and what was written up to there");
        String six = "0-1:1-0 0-1:2-0 0-1:3-0 0-1:4-0 0-1:5-0 0-1:6-0 ";
        String ten = "0-2:1-1 0-2:2-1 0-2:3-1 0-2:4-1 0-2:5-1 0-2:6-1 0-2:77-1 0-2:88-1 0-2:99-1 0-2:-1 ";
        TransducerBench x = Edges.bench(2, ">0 1/8 " + six + ten);
        CHECK.due("60 behind the last letter", x.apply(0, 12), 60);
        CHECK.due("60, then none", x.apply(0, 123), 0);
        CHECK.due("36", x.apply(0, 11), 0);
        CHECK.due("216", x.apply(0, 111), WITHOUT);
        CHECK.due("216, then none", x.apply(0, 1113), WITHOUT);
        CHECK.due("216 where a WORD ends in no letter", x.apply(0, 1110), NONE);
        x = Edges.bench(4, ">0 1/8 " + six + ten + ">3 3-1:1-0 3-1:6-0");
        CHECK.due("60, some of them twice", x.apply(0, 12), 60);
        x = Edges.bench(4, ">0 1/8 " + six + ten + ">3 3-1:-3 3-2:-3");
        CHECK.due("61, one of them of a STATE that is not USEFUL", x.apply(0, 12), WITHOUT);
        CHECK.due("61, then none", x.apply(0, 123), WITHOUT);
        CHECK.due("7", x.apply(0, 1), 0);
        x = Edges.bench(4, ">0 1/8 " + six + ten + ">3 3-1:-3 3-2:14-1");
        CHECK.due("60 with one more way to one of them", x.apply(0, 12), 60);
        x = Edges.bench(4, ">0 1/8 " + six + ten.replace("0-2:-1 ",
                "") + ">3 3-1:-3 3-2:-3 3-2:-1 3-2:9-3 3-2:9-1 3-2:99-3 3-2:99-1");
        CHECK.due("54 and 6", x.apply(0, 12), 57);
        x.arc(0, 3, 2, 2, 99);
        CHECK.due("54 and 7", x.apply(0, 12), WITHOUT);
        CHECK.sentence("(nothing is known then)");
        CHECK.due("the first one behind it", x.output(0, 0), WITHOUT);
        CHECK.due("the sixtieth behind it", x.output(59, 0), WITHOUT);
    }

    private static void promise10Refused() {
        CHECK.sentence("NONE: no such machine or WORD");
        for (int t : NO_MACHINES) {
            EDGES.nothingHappens("apply(" + t + ", 1)", x -> x.apply(t, 1), NONE);
        }
        int[] words = {LOWEST, -1, 4, 10, 333_333_334, 1_111_111_111, HIGHEST};
        for (int word : words) {
            EDGES.nothingHappens("apply(0, " + word + ")", x -> x.apply(0, word), NONE);
        }
    }

    private static void promise11Outputs() {
        CHECK.sentence("the i-th OUTPUT (the least one first)");
        TransducerBench x = Edges.bench(1, ">0 0/ 0-1:21-0 0-1:12-0 0-1:3-0 0-1:-0");
        CHECK.due("apply()", x.apply(0, 1), 4);
        String[] due = {"", "3", "12", "21"};
        for (int i = 0; i < 4; i++) {
            CHECK.due("output " + i, View.output(x, i), due[i]);
        }
        CHECK.sentence("-2 without such an OUTPUT");
        int[] others = {LOWEST, -2, -1, 4, 5, 59, 60, 61, HIGHEST};
        for (int i : others) {
            for (int k = -1; k <= 2; k++) {
                CHECK.due("output(" + i + ", " + k + ")", x.output(i, k), WITHOUT);
            }
        }
        TransducerBench sixty = Edges.bench(2,
                ">0 1/8 0-1:1-0 0-1:2-0 0-1:3-0 0-1:4-0 0-1:5-0 0-1:6-0 0-2:1-1 0-2:2-1 0-2:3-1 0-2:4-1"
                + " 0-2:5-1 0-2:6-1 0-2:77-1 0-2:88-1 0-2:99-1 0-2:-1");
        CHECK.due("sixty", sixty.apply(0, 12), 60);
        CHECK.due("the first", View.output(sixty, 0), "18");
        CHECK.due("the sixtieth", View.output(sixty, 59), "6998");
        CHECK.due("no sixty-first", View.output(sixty, 60), "none");
    }

    private static void promise11Letters() {
        CHECK.sentence("The k-th letter");
        TransducerBench x = Edges.bench(1, ">0 0/456 0-1:123-0 0-2:-0");
        CHECK.due("apply()", x.apply(0, 111_111_111), 1);
        CHECK.due("the first one", x.output(0, 0), 1);
        CHECK.due("the second one", x.output(0, 1), 2);
        CHECK.due("the thirtieth", x.output(0, 29), 6);
        CHECK.sentence("NONE behind its end");
        int[] others = {LOWEST, -2, -1, 30, 31, 32, HIGHEST};
        for (int k : others) {
            CHECK.due("output(0, " + k + ")", x.output(0, k), NONE);
        }
        x.ends(0, 0, 0);
        CHECK.due("apply()", x.apply(0, 2), 1);
        CHECK.due("no letters", x.output(0, 0), NONE);
        CHECK.due("no letters, k below", x.output(0, -1), NONE);
    }

    private static void promise11Latest() {
        CHECK.sentence("of the latest apply() that was not NONE");
        TransducerBench x = Edges.bench(2, ">0 0/7 0-1:1-0 0-1:2-1");
        CHECK.due("ahead of any", x.output(0, 0), WITHOUT);
        CHECK.due("ahead of any, k below", x.output(0, -1), WITHOUT);
        x.apply(0, 4);
        CHECK.due("ahead of any but a NONE", x.output(0, 0), WITHOUT);
        CHECK.due("apply()", x.apply(0, 1), 1);
        CHECK.due("a WORD that is none", x.apply(0, 40), NONE);
        CHECK.due("no machine", x.apply(2, 0), NONE);
        x.machine(0, 0);
        x.functional(0);
        CHECK.due("the latest", View.output(x, 0), "17");
        CHECK.due("a 0", x.apply(0, 1), 0);
        CHECK.due("then", x.output(0, 0), WITHOUT);
        Make.full(x, 1);
        CHECK.due("some", x.apply(1, 1) > 0, true);
        CHECK.due("then", x.output(0, 0) > 0, true);
        CHECK.due("a -2", x.apply(1, 111_111), WITHOUT);
        CHECK.due("nothing is known then", x.output(0, 0), WITHOUT);
    }
}
