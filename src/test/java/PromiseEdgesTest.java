import java.util.function.Consumer;
import java.util.function.ToIntFunction;

/** Each sentence of promises 1 to 22 that names a boundary case: the last that is taken, and the first that is refused. */
final class PromiseEdgesTest {
    private static final int NONE = TransducerBench.NONE;
    private static final int WITHOUT = -2;
    private static final int LOWEST = Integer.MIN_VALUE;
    private static final int HIGHEST = Integer.MAX_VALUE;
    private static final int[] NO_MACHINES = {LOWEST, -2, -1, 2, 3, HIGHEST};
    private static final int[] BELOW = {LOWEST, -2, -1};
    private static final Check CHECK = new Check();

    public static void main(String[] args) {
        promise1();
        promise2New();
        promise2Refused();
        promise3();
        promise3Refused();
        promise4();
        promise4None();
        promise4Refused();
        promise5();
        promise5Refused();
        promise5Thirty();
        promise6();
        promise6Refused();
        promise7Latest();
        promise7BeginWord();
        promise7SixStates();
        promise7ThreeLetters();
        promise7Becomes();
        promise7Refused();
        promise8();
        promise9();
        promise10Words();
        promise10SixtyPairs();
        promise10Refused();
        promise11Outputs();
        promise11Letters();
        promise11Latest();
        promise12();
        promise13();
        promise14();
        promise15();
        promise15None();
        promise15Asked24Times();
        promise16Letters();
        promise16Latest();
        promise16Order();
        promise17Letters();
        promise17Which();
        promise18Latest();
        promise18What();
        promise18Otherwise();
        promise19();
        promise19Latest();
        promise20Which();
        promise20Letters();
        promise21();
        promise21None();
        promise22Letters();
        promise22Latest();
        CHECK.finish("PromiseEdgesTest");
    }

    // What the tests are made of

    /** Two machines of which the first isn't FUNCTIONAL; OUTPUTS, a WITNESS, a LEAST machine and what it wrote. */
    private static void makeBusy(TransducerBench x) {
        Make.machine(x, 1, 3, ">0 0/5 0-1:12-1 1-2:3-2 2/ 2-1:44-0");
        x.sequential(1);
        x.act(12);
        Make.machine(x, 0, 3, ">0 >2 0/ 1/21 2/ 0-1:1-1 0-2:2-2 0-3:3-0 1-1:-2 0-1:3-1 2-3:-1");
        x.functional(0);
        x.apply(0, 1);
    }

    /** Six STATES and thirty ARCS, and nothing else. */
    private static void makeFull(TransducerBench x) {
        Make.full(x, 0);
    }

    private static void makeNothing(TransducerBench x) {
        CHECK.due("nothing at first", x.size(0, 0) + x.size(1, 0), 0);
    }

    /** A call is refused, and neither what can be read nor the machines are any other then. */
    private static void nothingHappens(String call, Consumer<TransducerBench> made, ToIntFunction<TransducerBench> asked, int due) {
        TransducerBench without = new TransducerBench();
        TransducerBench with = new TransducerBench();
        made.accept(without);
        made.accept(with);
        CHECK.due(call, asked.applyAsInt(with), due);
        CHECK.due(call + ", all is as it was", View.everything(with), View.everything(without));
        CHECK.due(call + ", the machines are", View.machines(with), View.machines(without));
    }

    private static void nothingHappens(String call, ToIntFunction<TransducerBench> asked, int due) {
        nothingHappens(call + " of busy machines", PromiseEdgesTest::makeBusy, asked, due);
        nothingHappens(call + " of no machines", PromiseEdgesTest::makeNothing, asked, due);
    }

    private static int bit(boolean is) {
        return is ? 1 : 0;
    }

    /** A new object with machine 0 as Make's notation tells it. */
    private static TransducerBench bench(int states, String told) {
        TransducerBench x = new TransducerBench();
        Make.machine(x, 0, states, told);
        return x;
    }

    /** As bench(); the LEAST machine is made of it. */
    private static TransducerBench sequential(int states, String told) {
        TransducerBench x = bench(states, told);
        CHECK.due("sequential()", x.sequential(0), 1);
        return x;
    }

    // The promises

    private static void promise1() {
        CHECK.sentence("Both machines have no STATES.");
        TransducerBench x = new TransducerBench();
        for (int t = 0; t < 2; t++) {
            for (int what = 0; what <= 2; what++) {
                CHECK.due("size()", x.size(t, what), 0);
            }
            CHECK.due("useful()", x.useful(t, 0), NONE);
            CHECK.due("begins()", x.begins(t, 0, true), false);
            CHECK.due("ends()", x.ends(t, 0, NONE), false);
            CHECK.due("arc()", x.arc(t, 0, 1, 0, 0), NONE);
            CHECK.due("apply()", x.apply(t, 0), 0);
            CHECK.due("functional()", x.functional(t), 1);
        }
        CHECK.due("everything", View.everything(new TransducerBench()), "size 0 0 0 useful -1 -1 -1 -1 -1 -1"
                + "size 0 0 0 useful -1 -1 -1 -1 -1 -1 output none output none output none output none"
                + " shown none: none, none acted  told -1 -1 -1 -1 -1 least none");
        CHECK.due("readers()", x.readers(), 1);
        CHECK.due("same()", x.same(), 1);
        CHECK.due("sequential()", x.sequential(0), 1);
    }

    private static void promise2New() {
        CHECK.sentence("A machine is new, with n STATES (0 to 6), none BEGINNING, no ENDS, no ARCS: true");
        for (int n = 0; n <= 6; n++) {
            TransducerBench x = new TransducerBench();
            Make.full(x, 0);
            Make.full(x, 1);
            CHECK.due("machine()", x.machine(1, n), true);
            CHECK.due("STATES", x.size(1, 0), n);
            CHECK.due("ARCS", x.size(1, 1), 0);
            CHECK.due("the other machine's", x.size(0, 0) * 100 + x.size(0, 1), 630);
            for (int q = 0; q < n; q++) {
                x.ends(1, q, 1);
            }
            CHECK.due("none BEGINNING", x.apply(1, 0), 0);
            for (int q = 0; q < n; q++) {
                x.begins(1, q, true);
                x.ends(1, q, NONE);
            }
            CHECK.due("machine() again", x.machine(1, n), true);
            for (int q = 0; q < n; q++) {
                x.begins(1, q, true);
            }
            CHECK.due("no ENDS", x.apply(1, 0), 0);
            CHECK.due("no ARCS", n == 0 ? 1 : x.arc(1, 0, 1, 0, 1), 1);
        }
    }

    private static void promise2Refused() {
        CHECK.sentence("false, and nothing happens: there is no such machine, or n.");
        int[] numbers = {LOWEST, -2, -1, 7, 8, HIGHEST};
        for (int n : numbers) {
            nothingHappens("machine(0, " + n + ")", x -> bit(x.machine(0, n)), 0);
            nothingHappens("machine(1, " + n + ")", x -> bit(x.machine(1, n)), 0);
        }
        for (int t : NO_MACHINES) {
            nothingHappens("machine(" + t + ", 3)", x -> bit(x.machine(t, 3)), 0);
            nothingHappens("machine(" + t + ", 0)", x -> bit(x.machine(t, 0)), 0);
            nothingHappens("machine(" + t + ", 7)", x -> bit(x.machine(t, 7)), 0);
        }
    }

    private static void promise3() {
        CHECK.sentence("A STATE is BEGINNING, or not: true");
        TransducerBench x = bench(6, "0/1 1/2 2/3 3/4 4/5 5/6");
        CHECK.due("the first one", x.begins(0, 0, true), true);
        CHECK.due("the last one", x.begins(0, 5, true), true);
        CHECK.due("both", View.outputs(x, 0, 0), "<1> <6>");
        CHECK.due("once more", x.begins(0, 5, true), true);
        CHECK.due("both still", View.outputs(x, 0, 0), "<1> <6>");
        CHECK.due("not", x.begins(0, 0, false), true);
        CHECK.due("the last one alone", View.outputs(x, 0, 0), "<6>");
        CHECK.due("not, once more", x.begins(0, 0, false), true);
        CHECK.due("the last one still", View.outputs(x, 0, 0), "<6>");
        CHECK.due("the last one not", x.begins(0, 5, false), true);
        CHECK.due("none", View.outputs(x, 0, 0), "");
    }

    private static void promise3Refused() {
        CHECK.sentence("A STATE is BEGINNING, or not: true; false without such.");
        int[] states = {LOWEST, -2, -1, 3, 4, 5, 6, 31, 32, HIGHEST};
        for (int q : states) {
            nothingHappens("begins(0, " + q + ")", x -> bit(x.begins(0, q, true)), 0);
            nothingHappens("begins(1, " + q + ", false)", x -> bit(x.begins(1, q, false)), 0);
        }
        for (int t : NO_MACHINES) {
            nothingHappens("begins(" + t + ", 1)", x -> bit(x.begins(t, 1, true)), 0);
            nothingHappens("begins(" + t + ", 0, false)", x -> bit(x.begins(t, 0, false)), 0);
        }
        nothingHappens("begins() without STATES", PromiseEdgesTest::makeNothing, x -> bit(x.begins(0, 0, true)), 0);
        nothingHappens("begins() of a seventh", PromiseEdgesTest::makeFull, x -> bit(x.begins(0, 6, false)), 0);
    }

    private static void promise4() {
        CHECK.sentence("The END of a STATE (a number; NONE: it has none): true");
        TransducerBench x = bench(6, ">0 >5");
        int[] words = {0, 1, 9, 11, 19, 91, 99, 111, 119, 191, 911, 999};
        for (int word : words) {
            for (int q = 0; q < 6; q += 5) {
                CHECK.due("ends(" + q + ", " + word + ")", x.ends(0, q, word), true);
                CHECK.due("outputs", View.outputs(x, 0, 0), "<" + (word == 0 ? "" : "" + word) + ">");
                CHECK.due("ends(" + q + ") without", x.ends(0, q, NONE), true);
            }
        }
    }

    private static void promise4None() {
        CHECK.sentence("NONE: it has none");
        TransducerBench x = bench(2, ">0 >1 0/1 1/2");
        CHECK.due("ends()", x.ends(0, 0, NONE), true);
        CHECK.due("the other one's", View.outputs(x, 0, 0), "<2>");
        CHECK.due("ends() where there is none", x.ends(0, 0, NONE), true);
        CHECK.due("the other one's still", View.outputs(x, 0, 0), "<2>");
        CHECK.due("ends()", x.ends(0, 1, NONE), true);
        CHECK.due("none", View.outputs(x, 0, 0), "");
        CHECK.due("USEFUL ones", x.size(0, 2), 0);
        CHECK.due("ends() without letters is no NONE", x.ends(0, 1, 0), true);
        CHECK.due("it has one", View.outputs(x, 0, 0), "<>");
    }

    private static void promise4Refused() {
        CHECK.sentence("false without such a STATE, or if the number is no output WORD of at most 3 letters.");
        int[] states = {LOWEST, -2, -1, 3, 4, 6, HIGHEST};
        for (int q : states) {
            nothingHappens("ends(0, " + q + ")", x -> bit(x.ends(0, q, 1)), 0);
            nothingHappens("ends(1, " + q + ", NONE)", x -> bit(x.ends(1, q, NONE)), 0);
        }
        for (int t : NO_MACHINES) {
            nothingHappens("ends(" + t + ", 0)", x -> bit(x.ends(t, 0, 1)), 0);
            nothingHappens("ends(" + t + ", 0, NONE)", x -> bit(x.ends(t, 0, NONE)), 0);
        }
        int[] words = {LOWEST, -999, -11, -3, -2, 10, 20, 90, 100, 101, 109, 110, 190, 900, 901, 990, 1000, 1001, 1110, 1111,
            1999, 9999, 11111, 1_111_111_111, HIGHEST};
        for (int word : words) {
            nothingHappens("ends(0, 0, " + word + ")", x -> bit(x.ends(0, 0, word)), 0);
        }
    }

    private static void promise5() {
        CHECK.sentence("An ARC: how many the machine has.");
        TransducerBench x = bench(6, ">0 >5 0/ 5/");
        CHECK.due("the lowest", x.arc(0, 0, 1, 0, 0), 1);
        CHECK.due("the highest", x.arc(0, 5, 3, 5, 999), 2);
        CHECK.due("the highest of none in the other machine", x.machine(1, 1) ? x.arc(1, 0, 3, 0, 999) : NONE, 1);
        CHECK.due("the lowest, once more", x.arc(0, 0, 1, 0, 0), 2);
        CHECK.due("the highest, once more", x.arc(0, 5, 3, 5, 999), 2);
        CHECK.due("size()", x.size(0, 1), 2);
        CHECK.due("by 1", View.outputs(x, 0, 1), "<>");
        CHECK.due("by 2", View.outputs(x, 0, 2), "");
        CHECK.due("by 3", View.outputs(x, 0, 3), "<999>");
    }

    private static void promise5Refused() {
        CHECK.sentence("NONE, and nothing happens: a STATE, letter, WORD is none");
        int[] states = {LOWEST, -2, -1, 3, 4, 6, HIGHEST};
        for (int q : states) {
            nothingHappens("arc() from " + q, x -> x.arc(0, q, 1, 0, 9), NONE);
            nothingHappens("arc() to " + q, x -> x.arc(1, 0, 1, q, 9), NONE);
        }
        int[] letters = {LOWEST, -2, -1, 0, 4, 5, 9, 11, 12, HIGHEST};
        for (int letter : letters) {
            nothingHappens("arc() by " + letter, x -> x.arc(0, 0, letter, 0, 9), NONE);
        }
        int[] words = {LOWEST, -999, -2, -1, 10, 100, 101, 110, 990, 1000, 1111, 9999, 11111, 1_111_111_111, HIGHEST};
        for (int word : words) {
            nothingHappens("arc() writing " + word, x -> x.arc(0, 0, 1, 0, word), NONE);
        }
        for (int t : NO_MACHINES) {
            nothingHappens("arc() of machine " + t, x -> x.arc(t, 0, 1, 0, 9), NONE);
        }
        nothingHappens("arc() from a seventh", PromiseEdgesTest::makeFull, x -> x.arc(0, 6, 1, 0, 1), NONE);
    }

    private static void promise5Thirty() {
        CHECK.sentence("or there would be more than 30");
        nothingHappens("the 31st", PromiseEdgesTest::makeFull, x -> x.arc(0, 0, 1, 5, 1), NONE);
        nothingHappens("the 31st with another WORD", PromiseEdgesTest::makeFull, x -> x.arc(0, 0, 1, 0, 9), NONE);
        nothingHappens("one that is there makes no 31st", PromiseEdgesTest::makeFull, x -> x.arc(0, 0, 1, 0, 1), 30);
        nothingHappens("the last one makes no 31st", PromiseEdgesTest::makeFull, x -> x.arc(0, 5, 2, 3, 5), 30);
    }

    private static void promise6() {
        CHECK.sentence("Machine t becomes what the other one is: true");
        for (int t = 0; t < 2; t++) {
            TransducerBench x = new TransducerBench();
            Make.full(x, 1 - t);
            CHECK.due("copy() of a full one", x.copy(t), true);
            CHECK.due("STATES, ARCS, USEFUL ones", x.size(t, 0) * 1000 + x.size(t, 1) * 10 + x.size(t, 2), 6306);
            CHECK.due("what is the same", x.readers() == 1 && x.arc(t, 0, 1, 0, 9) == NONE && x.arc(t, 0, 1, 0, 1) == 30, true);
            CHECK.due("its OUTPUTS", View.outputs(x, t, 1), View.outputs(x, 1 - t, 1));
            x.machine(1 - t, 0);
            CHECK.due("the other one's", x.size(t, 1), 30);
            CHECK.due("copy() of one without STATES", x.copy(t), true);
            CHECK.due("without", x.size(t, 0) + x.size(t, 1), 0);
            Make.machine(x, 1 - t, 2, ">0 1/5 0-1:7-1");
            Make.full(x, t);
            CHECK.due("copy() of a small one", x.copy(t), true);
            CHECK.due("small", x.size(t, 0) * 1000 + x.size(t, 1) * 10 + x.size(t, 2), 2012);
            CHECK.due("BEGINNING, END, ARC", View.outputs(x, t, 0) + View.outputs(x, t, 1), "<75>");
            x.ends(t, 1, 6);
            CHECK.due("the other one stays", View.outputs(x, 1 - t, 1), "<75>");
            CHECK.due("copy() back", x.copy(1 - t), true);
            CHECK.due("as it is", View.outputs(x, 1 - t, 1), "<76>");
        }
    }

    private static void promise6Refused() {
        CHECK.sentence("Machine t becomes what the other one is: true; false without such.");
        for (int t : NO_MACHINES) {
            nothingHappens("copy(" + t + ")", x -> bit(x.copy(t)), 0);
        }
    }

    private static void promise7Latest() {
        CHECK.sentence("(there is none unless the latest sequential() that was 0, 1 or 2 was 1)");
        nothingHappens("take() ahead of any", PromiseEdgesTest::makeNothing, x -> bit(x.take(0)), 0);
        TransducerBench x = bench(1, ">0 0/ 0-1:1-0 0-1:2-0");
        CHECK.due("a NONE", x.sequential(0), NONE);
        CHECK.due("take() ahead of any but a NONE", x.take(1), false);
        Make.oneState(x, 0, 0, 5);
        CHECK.due("a 1", x.sequential(0), 1);
        CHECK.due("take() then", x.take(1), true);
        CHECK.due("take() once more", x.take(1), true);
        x.arc(0, 0, 1, 0, 6);
        CHECK.due("a NONE behind it", x.sequential(0), NONE);
        CHECK.due("no machine behind it", x.sequential(2), NONE);
        CHECK.due("take() still", x.take(1), true);
        Make.guess(x, 0);
        CHECK.due("a 0", x.sequential(0), 0);
        CHECK.due("take() no more", x.take(1), false);
        CHECK.due("as it was", x.size(1, 0), 1);
        CHECK.due("a 1 again", x.sequential(1), 1);
        CHECK.due("take() again", x.take(0), true);
        Make.tokens(x, 0);
        CHECK.due("a 2", x.sequential(0), 2);
        CHECK.due("take() no more then", x.take(1), false);
        for (int asked = 4; asked < 24; asked++) {
            CHECK.due("24 times", x.sequential(1), 1);
        }
        Make.guess(x, 0);
        CHECK.due("a -2 behind a 1", x.sequential(0), WITHOUT);
        CHECK.due("take() of the 1", x.take(0), true);
        CHECK.due("it is taken", x.size(0, 0), 1);
    }

    private static void promise7BeginWord() {
        CHECK.sentence("where that has a BEGIN WORD of no letters (or no STATES)");
        CHECK.due("no letters", sequential(2, ">0 1/ 0-1:1-1 0-2:2-1").take(1), true);
        CHECK.due("a letter", sequential(2, ">0 1/ 0-1:1-1 0-2:1-1").take(1), false);
        CHECK.due("letters", sequential(2, ">0 1/ 0-1:123-1").take(1), false);
        TransducerBench x = sequential(2, ">0 0-1:123-1");
        Make.full(x, 1);
        CHECK.due("no STATES", x.take(1), true);
        CHECK.due("none", x.size(1, 0) + x.size(1, 1), 0);
    }

    private static void promise7SixStates() {
        CHECK.sentence("at most 6 STATES");
        String rounds = ">0 0-1:-1 1-1:-2 2-1:-1 0-1:-3 3-1:-4 4-1:-5 5-1:-3 1/ 3/";
        TransducerBench six = sequential(6, rounds);
        CHECK.due("six", six.told(3), 6);
        CHECK.due("take() of six", six.take(1), true);
        CHECK.due("six are taken", six.size(1, 0) * 10 + six.size(1, 1), 66);
        CHECK.due("they are the same", six.same(), 1);
        TransducerBench seven = sequential(6, rounds + " 0/");
        CHECK.due("seven", seven.told(3), 7);
        CHECK.due("take() of seven", seven.take(1), false);
        CHECK.due("nothing is taken", seven.size(1, 0), 0);
    }

    private static void promise7ThreeLetters() {
        CHECK.sentence("WORDS of at most 3 letters");
        CHECK.due("three of an ARC", sequential(3, ">0 0/ 0-1:12-1 1-2:3-2 2/").take(1), true);
        CHECK.due("four of an ARC", sequential(3, ">0 0/ 0-1:12-1 1-2:34-2 2/").take(1), false);
        CHECK.due("four of the last ARC", sequential(4, ">0 0/ 0-1:-1 1/ 0-2:-1 1-3:12-2 2-3:34-3 3/").take(1), false);
        CHECK.due("three of an END", sequential(4, ">0 0-1:1-1 0-1:-2 1/22 2-2:3-3 3/").take(1), true);
        CHECK.due("four of an END", sequential(4, ">0 0-1:1-1 0-1:-2 1/222 2-2:3-3 3/").take(1), false);
        CHECK.due("three of the first END", sequential(1, ">0 0/123 0-1:3-0").take(1), true);
    }

    private static void promise7Becomes() {
        CHECK.sentence("Machine t becomes the LEAST machine");
        for (int t = 0; t < 2; t++) {
            TransducerBench x = sequential(4, ">0 0-1:1-1 0-1:-2 1/22 2-2:3-3 3/ 3-3:4-0");
            Make.full(x, t);
            CHECK.due("the LEAST machine", View.least(x), " 0-1:-1 1/122 1-2:3-2 2/ 2-3:4-0");
            CHECK.due("take()", x.take(t), true);
            CHECK.due("STATES, ARCS, USEFUL ones", x.size(t, 0) * 100 + x.size(t, 1) * 10 + x.size(t, 2), 333);
            CHECK.due("BEGINNING alone is 0", View.outputs(x, t, 0) + View.outputs(x, t, 2) + View.outputs(x, t, 3), "");
            CHECK.due("an END", View.outputs(x, t, 1), "<122>");
            CHECK.due("an ARC", View.outputs(x, t, 12), "<3>");
            CHECK.due("another ARC", View.outputs(x, t, 12312), "<343>");
            CHECK.due("no ARC", View.outputs(x, t, 11) + View.outputs(x, t, 122) + View.outputs(x, t, 123), "");
            CHECK.due("the LEAST machine stays", View.least(x), " 0-1:-1 1/122 1-2:3-2 2/ 2-3:4-0");
            CHECK.due("it is its own LEAST machine", x.sequential(t), 1);
            CHECK.due("once more", View.least(x), " 0-1:-1 1/122 1-2:3-2 2/ 2-3:4-0");
        }
    }

    private static void promise7Refused() {
        CHECK.sentence("false, and nothing happens, otherwise, without one, or without such a machine.");
        for (int t : NO_MACHINES) {
            nothingHappens("take(" + t + ")", x -> bit(x.take(t)), 0);
        }
        for (int t = 0; t < 2; t++) {
            int goal = t;
            nothingHappens("take() of a BEGIN WORD", PromiseEdgesTest::makeBeginWord, x -> bit(x.take(goal)), 0);
            nothingHappens("take() of long WORDS", PromiseEdgesTest::makeLongWords, x -> bit(x.take(goal)), 0);
            nothingHappens("take() of a 0", PromiseEdgesTest::makeNotSequential, x -> bit(x.take(goal)), 0);
            nothingHappens("take() of a 2", PromiseEdgesTest::makeUntold, x -> bit(x.take(goal)), 0);
        }
    }

    private static void makeBeginWord(TransducerBench x) {
        Make.machine(x, 0, 2, ">0 1/ 0-1:1-1");
        x.sequential(0);
        Make.machine(x, 1, 3, ">0 0/5 0-1:12-1 1-2:3-2 2/ 2-1:44-0");
    }

    private static void makeLongWords(TransducerBench x) {
        Make.machine(x, 0, 3, ">0 0/5 0-1:12-1 1-2:34-2 2/ 2-1:44-0");
        x.sequential(0);
        Make.machine(x, 1, 2, ">0 1/ 0-1:1-1");
    }

    private static void makeNotSequential(TransducerBench x) {
        makeBusy(x);
        Make.guess(x, 0);
        x.sequential(0);
    }

    private static void makeUntold(TransducerBench x) {
        makeBusy(x);
        Make.tokens(x, 0);
        x.sequential(0);
    }

    private static void promise8() {
        CHECK.sentence("Of a machine what 0: STATES, 1: ARCS, 2: USEFUL STATES. NONE for others.");
        TransducerBench x = bench(6, ">0 1/ 0-1:-1 0-2:-1 0-3:-1 2-1:-1");
        CHECK.due("size(0, 0)", x.size(0, 0), 6);
        CHECK.due("size(0, 1)", x.size(0, 1), 4);
        CHECK.due("size(0, 2)", x.size(0, 2), 2);
        int[] others = {LOWEST, -2, -1, 3, 4, 256, HIGHEST};
        for (int what : others) {
            CHECK.due("size(0, " + what + ")", x.size(0, what), NONE);
        }
        for (int t : NO_MACHINES) {
            for (int what = 0; what <= 3; what++) {
                CHECK.due("size(" + t + ", " + what + ")", x.size(t, what), NONE);
            }
        }
        for (int n = 0; n <= 6; n++) {
            x.machine(1, n);
            CHECK.due("size(1, 0)", x.size(1, 0), n);
            CHECK.due("size(1, 1)", x.size(1, 1), 0);
            CHECK.due("size(1, 2)", x.size(1, 2), 0);
        }
        Make.full(x, 1);
        CHECK.due("the most ARCS", x.size(1, 1), 30);
        CHECK.due("the most USEFUL ones", x.size(1, 2), 6);
    }

    private static void promise9() {
        CHECK.sentence("Whether a STATE is USEFUL: 1, 0; NONE without it.");
        TransducerBench x = bench(5, ">0 4/ 0-1:-4 1-1:-4");
        int[] due = {1, 0, 0, 0, 1};
        for (int q = 0; q < 5; q++) {
            CHECK.due("useful(0, " + q + ")", x.useful(0, q), due[q]);
        }
        int[] others = {LOWEST, -32, -2, -1, 5, 6, 32, HIGHEST};
        for (int q : others) {
            CHECK.due("useful(0, " + q + ")", x.useful(0, q), NONE);
        }
        for (int t : NO_MACHINES) {
            CHECK.due("useful(" + t + ", 0)", x.useful(t, 0), NONE);
        }
        CHECK.due("useful() without STATES", x.useful(1, 0), NONE);
    }

    private static void promise10Words() {
        CHECK.sentence("How many OUTPUTS an input WORD (a number of at most 9 letters) has");
        TransducerBench x = bench(1, ">0 0/ 0-1:1-0 0-2:-0 0-3:3-0");
        int[] words = {0, 1, 2, 3, 11, 33, 123, 111_111_111, 123_123_123, 333_333_333, 333_333_331};
        for (int word : words) {
            CHECK.due("apply(" + word + ")", x.apply(0, word), 1);
        }
        int[] others = {LOWEST, -111, -2, -1, 4, 5, 9, 10, 14, 20, 41, 101, 110, 333_333_330, 333_333_334, 411_111_111,
            1_000_000_000, 1_111_111_111, 1_333_333_333, 2_111_111_111, 2_133_333_333, HIGHEST};
        for (int word : others) {
            CHECK.due("apply(" + word + ")", x.apply(0, word), NONE);
        }
        CHECK.due("none", bench(2, ">0 1/").apply(0, 0), 0);
        CHECK.due("of a machine without STATES", x.apply(1, 333_333_333), 0);
    }

    private static void promise10SixtyPairs() {
        CHECK.sentence("-2: behind some letter there are more than 60 pairs of a STATE and what was written up to there");
        String six = "0-1:1-0 0-1:2-0 0-1:3-0 0-1:4-0 0-1:5-0 0-1:6-0 ";
        String ten = "0-2:1-1 0-2:2-1 0-2:3-1 0-2:4-1 0-2:5-1 0-2:6-1 0-2:77-1 0-2:88-1 0-2:99-1 0-2:-1 ";
        TransducerBench x = bench(2, ">0 1/8 " + six + ten);
        CHECK.due("60 behind the last letter", x.apply(0, 12), 60);
        CHECK.due("60, then none", x.apply(0, 123), 0);
        CHECK.due("36", x.apply(0, 11), 0);
        CHECK.due("216", x.apply(0, 111), WITHOUT);
        CHECK.due("216, then none", x.apply(0, 1113), WITHOUT);
        CHECK.due("216 where a WORD ends in no letter", x.apply(0, 1110), NONE);
        x = bench(4, ">0 1/8 " + six + ten + ">3 3-1:1-0 3-1:6-0");
        CHECK.due("60, some of them twice", x.apply(0, 12), 60);
        x = bench(4, ">0 1/8 " + six + ten + ">3 3-1:-3 3-2:-3");
        CHECK.due("61, one of them of a STATE that is not USEFUL", x.apply(0, 12), WITHOUT);
        CHECK.due("61, then none", x.apply(0, 123), WITHOUT);
        CHECK.due("7", x.apply(0, 1), 0);
        x = bench(4, ">0 1/8 " + six + ten + ">3 3-1:-3 3-2:14-1");
        CHECK.due("60 with one more way to one of them", x.apply(0, 12), 60);
        x = bench(4, ">0 1/8 " + six + ten.replace("0-2:-1 ", "") + ">3 3-1:-3 3-2:-3 3-2:-1 3-2:9-3 3-2:9-1 3-2:99-3 3-2:99-1");
        CHECK.due("54 and 6", x.apply(0, 12), 57);
        x.arc(0, 3, 2, 2, 99);
        CHECK.due("54 and 7", x.apply(0, 12), WITHOUT);
        CHECK.due("the first one behind it", x.output(0, 0), WITHOUT);
        CHECK.due("the sixtieth behind it", x.output(59, 0), WITHOUT);
    }

    private static void promise10Refused() {
        CHECK.sentence("NONE: no such machine or WORD");
        for (int t : NO_MACHINES) {
            nothingHappens("apply(" + t + ", 1)", x -> x.apply(t, 1), NONE);
        }
        int[] words = {LOWEST, -1, 4, 10, 333_333_334, 1_111_111_111, HIGHEST};
        for (int word : words) {
            nothingHappens("apply(0, " + word + ")", x -> x.apply(0, word), NONE);
        }
    }

    private static void promise11Outputs() {
        CHECK.sentence("the i-th OUTPUT (the least one first)");
        TransducerBench x = bench(1, ">0 0/ 0-1:21-0 0-1:12-0 0-1:3-0 0-1:-0");
        CHECK.due("apply()", x.apply(0, 1), 4);
        String[] due = {"", "3", "12", "21"};
        for (int i = 0; i < 4; i++) {
            CHECK.due("output " + i, View.output(x, i), due[i]);
        }
        CHECK.sentence("-2 without such an OUTPUT");
        int[] others = {LOWEST, -2, -1, 4, 5, 59, 60, 61, HIGHEST};
        for (int i : others) {
            for (int k = -1; k <= 2; k++) {
                CHECK.due("output(" + i + ", " + k + ")", x.output(i, k), WITHOUT);
            }
        }
        TransducerBench sixty = bench(2, ">0 1/8 0-1:1-0 0-1:2-0 0-1:3-0 0-1:4-0 0-1:5-0 0-1:6-0 0-2:1-1 0-2:2-1 0-2:3-1 0-2:4-1"
                + " 0-2:5-1 0-2:6-1 0-2:77-1 0-2:88-1 0-2:99-1 0-2:-1");
        CHECK.due("sixty", sixty.apply(0, 12), 60);
        CHECK.due("the first", View.output(sixty, 0), "18");
        CHECK.due("the sixtieth", View.output(sixty, 59), "6998");
        CHECK.due("no sixty-first", View.output(sixty, 60), "none");
    }

    private static void promise11Letters() {
        CHECK.sentence("The k-th letter");
        TransducerBench x = bench(1, ">0 0/456 0-1:123-0 0-2:-0");
        CHECK.due("apply()", x.apply(0, 111_111_111), 1);
        CHECK.due("the first one", x.output(0, 0), 1);
        CHECK.due("the second one", x.output(0, 1), 2);
        CHECK.due("the thirtieth", x.output(0, 29), 6);
        int[] others = {LOWEST, -2, -1, 30, 31, 32, HIGHEST};
        for (int k : others) {
            CHECK.due("output(0, " + k + ")", x.output(0, k), NONE);
        }
        x.ends(0, 0, 0);
        CHECK.due("apply()", x.apply(0, 2), 1);
        CHECK.due("no letters", x.output(0, 0), NONE);
        CHECK.due("no letters, k below", x.output(0, -1), NONE);
    }

    private static void promise11Latest() {
        CHECK.sentence("of the latest apply() that was not NONE");
        TransducerBench x = bench(2, ">0 0/7 0-1:1-0 0-1:2-1");
        CHECK.due("ahead of any", x.output(0, 0), WITHOUT);
        CHECK.due("ahead of any, k below", x.output(0, -1), WITHOUT);
        x.apply(0, 4);
        CHECK.due("ahead of any but a NONE", x.output(0, 0), WITHOUT);
        CHECK.due("apply()", x.apply(0, 1), 1);
        CHECK.due("a WORD that is none", x.apply(0, 40), NONE);
        CHECK.due("no machine", x.apply(2, 0), NONE);
        x.machine(0, 0);
        x.functional(0);
        CHECK.due("the latest", View.output(x, 0), "17");
        CHECK.due("a 0", x.apply(0, 1), 0);
        CHECK.due("then", x.output(0, 0), WITHOUT);
        Make.full(x, 1);
        CHECK.due("some", x.apply(1, 1) > 0, true);
        CHECK.due("then", x.output(0, 0) > 0, true);
        CHECK.due("a -2", x.apply(1, 111_111), WITHOUT);
        CHECK.due("nothing is known then", x.output(0, 0), WITHOUT);
    }

    private static void promise12() {
        CHECK.sentence("FUNCTIONAL: 1, 0; NONE without such a machine.");
        TransducerBench x = bench(2, ">0 0-1:1-1 0-1:2-1");
        CHECK.due("1 without a WORD", x.functional(0), 1);
        CHECK.due("1 without STATES", x.functional(1), 1);
        x.ends(0, 1, 0);
        CHECK.due("0", x.functional(0), 0);
        CHECK.due("1 of the other one still", x.functional(1), 1);
        for (int t : NO_MACHINES) {
            nothingHappens("functional(" + t + ")", y -> y.functional(t), NONE);
        }
        nothingHappens("a 1", PromiseEdgesTest::makeBusy, y -> y.functional(1), 1);
    }

    private static void promise13() {
        CHECK.sentence("READERS of both machines are the same: 1, 0.");
        TransducerBench x = bench(2, ">0 1/");
        CHECK.due("no WORDS on both sides", x.readers(), 1);
        x.begins(0, 1, true);
        CHECK.due("the empty one on the one side", x.readers(), 0);
        CHECK.due("it shows", View.shown(x), ": , none");
        Make.machine(x, 1, 1, ">0 0/5");
        CHECK.due("the empty one on both sides", x.readers(), 1);
        CHECK.due("the latest that was 0", View.shown(x), ": , none");
        x.arc(1, 0, 3, 0, 6);
        CHECK.due("more on the other side", x.readers(), 0);
        CHECK.due("then", View.shown(x), "3: none, 65");
        nothingHappens("a 1", PromiseEdgesTest::makeNotFunctional, y -> y.readers(), 1);
    }

    /** Both machines read the same and aren't FUNCTIONAL. */
    private static void makeNotFunctional(TransducerBench x) {
        Make.machine(x, 0, 2, ">0 >1 0/1 1/2 0-1:1-0");
        Make.machine(x, 1, 1, ">0 0/ 0-1:1-0 0-1:2-0");
        x.functional(1);
    }

    private static void promise14() {
        CHECK.sentence("SAME: 1, 0; NONE if one is not FUNCTIONAL.");
        TransducerBench x = new TransducerBench();
        CHECK.due("without STATES", x.same(), 1);
        Make.machine(x, 0, 1, ">0 0/ 0-1:1-0");
        Make.machine(x, 1, 2, ">0 0/ 0-1:1-1 1/ 1-1:1-0");
        CHECK.due("1", x.same(), 1);
        CHECK.due("without a WITNESS", View.shown(x), "none: none, none");
        x.ends(1, 1, 2);
        CHECK.due("0", x.same(), 0);
        CHECK.due("it shows", View.shown(x), "1: 1, 12");
        x.ends(1, 1, 0);
        CHECK.due("1 again", x.same(), 1);
        CHECK.due("the latest that was 0", View.shown(x), "1: 1, 12");
        x.arc(1, 1, 1, 0, 3);
        CHECK.due("1 is not FUNCTIONAL", x.same(), NONE);
        x.copy(0);
        CHECK.due("neither is", x.same(), NONE);
        Make.machine(x, 1, 1, ">0 0/ 0-1:1-0");
        CHECK.due("0 is not FUNCTIONAL", x.same(), NONE);
    }
    private static void promise15() {
        CHECK.sentence("SEQUENTIAL: 1, 0, 2 UNTOLD");
        TransducerBench x = new TransducerBench();
        CHECK.due("without STATES", x.sequential(0), 1);
        Make.guess(x, 0);
        CHECK.due("a guess", x.sequential(0), 0);
        Make.tokens(x, 1);
        CHECK.due("too many SETS", x.sequential(1), 2);
        Make.machine(x, 0, 3, ">0 >1 >2 0/ 0-3:-1 1-2:12-0 0-3:-2 0-2:1-1 2-2:2-2 2-3:-0");
        CHECK.due("too many pairs", x.sequential(0), 2);
        Make.oneState(x, 1, 999, 999, 999, 999);
        CHECK.due("one STATE", x.sequential(1), 1);
    }

    private static void promise15None() {
        CHECK.sentence("NONE without such a machine, or if it is not FUNCTIONAL");
        for (int t : NO_MACHINES) {
            nothingHappens("sequential(" + t + ")", x -> x.sequential(t), NONE);
        }
        TransducerBench x = bench(1, ">0 0/ 0-1:1-0");
        CHECK.due("FUNCTIONAL", x.sequential(0), 1);
        x.arc(0, 0, 1, 0, 2);
        CHECK.due("not FUNCTIONAL", x.sequential(0), NONE);
        CHECK.due("it shows", View.shown(x), "1: 1, 2");
        CHECK.due("told() of the one ahead", View.told(x), "1 1 1 1 1");
        CHECK.due("the LEAST machine of the one ahead", View.least(x), " 0/ 0-1:1-0");
        x.ends(0, 0, NONE);
        CHECK.due("FUNCTIONAL without an END", x.sequential(0), 1);
    }

    /** 24 answers, eight times 0, 2 and 1 each, the last one 1, with refused ones between them. */
    private static void makeAsked24Times(TransducerBench x) {
        Make.guess(x, 0);
        Make.tokens(x, 1);
        for (int round = 0; round < 8; round++) {
            CHECK.due("a 0", x.sequential(0), 0);
            CHECK.due("a 2", x.sequential(1), 2);
        }
        Make.oneState(x, 0, 0, 1);
        x.arc(0, 0, 1, 0, 2);
        Make.oneState(x, 1, 3, 4);
        for (int round = 0; round < 8; round++) {
            CHECK.due("a NONE", x.sequential(0), NONE);
            CHECK.due("no machine", x.sequential(2), NONE);
            CHECK.due("a 1", x.sequential(1), 1);
        }
        x.act(1);
        Make.oneState(x, 1, 5);
        x.readers();
    }

    private static void promise15Asked24Times() {
        CHECK.sentence("-2, and nothing changes (asked ahead of FUNCTIONAL): 24 times an answer was 0, 1 or 2.");
        TransducerBench x = new TransducerBench();
        makeAsked24Times(x);
        CHECK.due("the 25th of one that is not FUNCTIONAL", x.sequential(0), WITHOUT);
        CHECK.due("the 25th of one that is", x.sequential(1), WITHOUT);
        CHECK.due("no machine", x.sequential(2), NONE);
        CHECK.due("no machine below", x.sequential(-1), NONE);
        CHECK.due("the WITNESS of readers() stays", View.shown(x), "1: 1, none");
        CHECK.due("told() stays", View.told(x), "1 1 1 1 1");
        CHECK.due("the LEAST machine stays", View.least(x), " 0/3 0-1:4-0");
        CHECK.due("acted() stays", View.acted(x), "43");
        CHECK.due("act() goes on", View.act(x, 11), "443");
        Make.guess(x, 0);
        CHECK.due("one that would be 0", x.sequential(0), WITHOUT);
        CHECK.due("act() goes on still", View.act(x, 1), "43");
        CHECK.due("functional() goes on", x.functional(0), 1);
        for (int t = -1; t <= 2; t++) {
            int asked = t;
            nothingHappens("the 25th, of machine " + t, PromiseEdgesTest::makeAsked24Times, y -> y.sequential(asked),
                    t == 0 || t == 1 ? WITHOUT : NONE);
        }
    }

    private static void promise16Letters() {
        CHECK.sentence("the k-th letter of the WITNESS; NONE behind its end; -2 without one.");
        int[] others = {LOWEST, -2, -1, 3, 4, 127, 128, HIGHEST};
        TransducerBench x = bench(4, ">0 0-1:-1 1-3:-2 2-2:-3 3/");
        for (int k : others) {
            CHECK.due("witness(" + k + ") ahead of any", x.witness(k), WITHOUT);
        }
        CHECK.due("readers()", x.readers(), 0);
        CHECK.due("the first one", x.witness(0), 1);
        CHECK.due("the second one", x.witness(1), 3);
        CHECK.due("the last one", x.witness(2), 2);
        for (int k : others) {
            CHECK.due("witness(" + k + ")", x.witness(k), NONE);
        }
        x.ends(0, 0, 0);
        CHECK.due("readers() by the empty WORD", x.readers(), 0);
        CHECK.due("no letters", x.witness(0), NONE);
        CHECK.due("no letters, k below", x.witness(-1), NONE);
    }

    private static void promise16Latest() {
        CHECK.sentence("Of the latest functional(), readers() or same() that was 0");
        TransducerBench x = bench(1, ">0 0/");
        x.functional(0);
        x.functional(2);
        x.sequential(0);
        CHECK.due("ahead of any that was 0", View.shown(x), "none: none, none");
        CHECK.due("readers()", x.readers(), 0);
        CHECK.due("of readers()", View.shown(x), ": , none");
        x.arc(0, 0, 2, 0, 6);
        x.arc(0, 0, 2, 0, 5);
        CHECK.due("functional()", x.functional(0), 0);
        CHECK.due("of functional()", View.shown(x), "2: 5, 6");
        CHECK.due("a 1 of the other machine", x.functional(1), 1);
        CHECK.due("as it was", View.shown(x), "2: 5, 6");
        Make.oneState(x, 0, 0, 1, 5);
        Make.oneState(x, 1, 0, 1, 6);
        CHECK.due("readers() that is 1", x.readers(), 1);
        CHECK.due("as it was then", View.shown(x), "2: 5, 6");
        x.ends(1, 0, 9);
        CHECK.due("same()", x.same(), 0);
        CHECK.due("of same()", View.shown(x), ": , 9");
        x.copy(1);
        CHECK.due("same() that is 1", x.same(), 1);
        CHECK.due("a 1 of sequential()", x.sequential(0), 1);
        CHECK.due("a call on no machine", x.functional(-1), NONE);
        Make.full(x, 0);
        x.machine(1, 0);
        CHECK.due("whatever the machines are by now", View.shown(x), ": , 9");
    }

    private static void promise16Order() {
        CHECK.sentence("(also as sequential(), same() ask whether a machine is FUNCTIONAL; same() asks machine 0 first, 1 only if that is)");
        TransducerBench x = new TransducerBench();
        Make.oneState(x, 0, 0, 7, 1);
        x.arc(0, 0, 2, 0, 2);
        Make.oneState(x, 1, 0, 3);
        x.arc(1, 0, 1, 0, 4);
        CHECK.due("same() of neither", x.same(), NONE);
        CHECK.due("0 is asked first", View.shown(x), "2: 1, 2");
        CHECK.due("sequential() of 1", x.sequential(1), NONE);
        CHECK.due("of sequential()", View.shown(x), "1: 3, 4");
        CHECK.due("sequential() of 0", x.sequential(0), NONE);
        CHECK.due("of sequential() then", View.shown(x), "2: 1, 2");
        x.machine(0, 1);
        CHECK.due("same() with 0 FUNCTIONAL", x.same(), NONE);
        CHECK.due("1 is asked then", View.shown(x), "1: 3, 4");
        Make.oneState(x, 0, 0, 8);
        x.arc(0, 0, 1, 0, 9);
        Make.oneState(x, 1, 0);
        CHECK.due("same() with 1 FUNCTIONAL", x.same(), NONE);
        CHECK.due("0 shows", View.shown(x), "1: 8, 9");
    }

    private static void promise17Letters() {
        CHECK.sentence("The k-th letter of its first (0) or second (1) output; NONE behind its end");
        TransducerBench x = bench(1, ">0 0/ 0-1:-0 0-1:789-0");
        CHECK.due("functional()", x.functional(0), 0);
        CHECK.due("no letters", x.wrote(0, 0), NONE);
        CHECK.due("the first one", x.wrote(1, 0), 7);
        CHECK.due("the last one", x.wrote(1, 2), 9);
        int[] others = {LOWEST, -2, -1, 3, 4, 386, 387, 388, HIGHEST};
        for (int k : others) {
            CHECK.due("wrote(0, " + k + ")", x.wrote(0, k), NONE);
            CHECK.due("wrote(1, " + k + ")", x.wrote(1, k), NONE);
        }
    }

    private static void promise17Which() {
        CHECK.sentence("-2 without it, or such an output.");
        int[] all = {LOWEST, -2, -1, 0, 1, 2, 3, HIGHEST};
        TransducerBench x = bench(1, ">0 0/ 0-3:45-0");
        for (int which : all) {
            for (int k : all) {
                CHECK.due("wrote(" + which + ", " + k + ") without a WITNESS", x.wrote(which, k), WITHOUT);
            }
        }
        Make.machine(x, 1, 1, ">0 0/");
        CHECK.due("readers()", x.readers(), 0);
        for (int which : all) {
            for (int k : all) {
                int due = k == 0 ? 4 : k == 1 ? 5 : NONE;
                CHECK.due("wrote(" + which + ", " + k + ") of 0 alone", x.wrote(which, k), which == 0 ? due : WITHOUT);
            }
        }
        x.arc(1, 0, 2, 0, 0);
        CHECK.due("same()", x.same(), 0);
        for (int which : all) {
            for (int k : all) {
                CHECK.due("wrote(" + which + ", " + k + ") of 1 alone", x.wrote(which, k), which == 1 ? NONE : WITHOUT);
            }
        }
        x.ends(1, 0, 6);
        CHECK.due("same() of both", x.same(), 0);
        for (int which : all) {
            CHECK.due("wrote(" + which + ", 0)", x.wrote(which, 0), which == 1 ? 6 : which == 0 ? NONE : WITHOUT);
        }
    }

    private static void promise18Latest() {
        CHECK.sentence("NONE ahead of any (one that was NONE counts as none).");
        TransducerBench x = bench(1, ">0 0/ 0-1:1-0 0-1:2-0");
        CHECK.due("ahead of any", View.told(x), "-1 -1 -1 -1 -1");
        CHECK.due("not FUNCTIONAL", x.sequential(0), NONE);
        CHECK.due("no machine", x.sequential(2), NONE);
        CHECK.due("ahead of any but NONE", View.told(x), "-1 -1 -1 -1 -1");
        CHECK.due("a 1", x.sequential(1), 1);
        CHECK.due("of one without STATES", View.told(x), "0 0 0 0 0");
        CHECK.due("not FUNCTIONAL behind it", x.sequential(0), NONE);
        CHECK.due("no machine behind it", x.sequential(-1), NONE);
        CHECK.due("as it was", View.told(x), "0 0 0 0 0");
        Make.oneState(x, 1, 0, 1);
        CHECK.due("another 1", x.sequential(1), 1);
        x.machine(1, 0);
        CHECK.due("the latest", View.told(x), "1 1 1 1 1");
    }

    private static void promise18What() {
        CHECK.sentence("NONE for another what.");
        int[] others = {LOWEST, -2, -1, 5, 6, HIGHEST};
        TransducerBench x = new TransducerBench();
        for (int what : others) {
            CHECK.due("told(" + what + ") ahead of any", x.told(what), NONE);
        }
        Make.machine(x, 0, 3, ">0 0/ 0-1:12-1 0-1:1-2 1-2:-0 2-3:-0");
        CHECK.due("sequential()", x.sequential(0), 1);
        CHECK.due("told()", View.told(x), "2 5 2 2 3");
        for (int what : others) {
            CHECK.due("told(" + what + ")", x.told(what), NONE);
        }
    }

    private static void promise18Otherwise() {
        CHECK.sentence("1: pairs with DELAYS (1001 if they are more), 2: SETS (101 if they are more; NONE if TWINS ended otherwise)");
        TransducerBench x = new TransducerBench();
        Make.machine(x, 0, 6, ">0 >2 >3 >4 >5 5/ 0-3:21-3 3-3:-1 0-2:-4 3-2:2-3 2-3:1-0 0-1:21-0 2-1:111-3 2-2:211-0 1-1:111-4"
                + " 5-3:112-4 1-1:21-2 1-1:1-3 1-1:1-5 5-1:2-2 1-3:211-4 4-2:11-1 2-1:222-4");
        CHECK.due("sequential()", x.sequential(0), 2);
        CHECK.due("1000 pairs, more than 100 SETS", View.told(x), "11 1000 101 -1 -1");
        Make.machine(x, 0, 3, ">0 >1 >2 0/ 0-3:-1 1-2:12-0 0-3:-2 0-2:1-1 2-2:2-2 2-3:-0");
        CHECK.due("sequential()", x.sequential(0), 2);
        CHECK.due("1001 pairs: no SETS", View.told(x), "13 1001 -1 -1 -1");
        Make.guess(x, 0);
        CHECK.due("sequential()", x.sequential(0), 0);
        CHECK.due("a 0: no SETS", View.told(x), "11 25 -1 -1 -1");
        Make.tokens(x, 0);
        CHECK.due("sequential()", x.sequential(0), 2);
        CHECK.due("more than 100 SETS: no LEAST machine", View.told(x), "10 406 101 -1 -1");
        CHECK.due("none to take", x.take(1), false);
    }
    private static void promise19() {
        CHECK.sentence("where STATE q goes by a letter; NONE.");
        TransducerBench x = sequential(3, ">2 2-1:-2 2-3:-0 0-2:1-2 0-3:-0 0/5");
        int[][] due = {{0, NONE, 1}, {NONE, 0, 1}};
        int[] others = {LOWEST, -2, -1, 0, 4, 5, HIGHEST};
        for (int q = 0; q < 2; q++) {
            for (int letter = 1; letter <= 3; letter++) {
                CHECK.due("goes(" + q + ", " + letter + ")", x.goes(q, letter), due[q][letter - 1]);
            }
            for (int letter : others) {
                CHECK.due("goes(" + q + ", " + letter + ")", x.goes(q, letter), NONE);
            }
        }
        int[] states = {LOWEST, -2, -1, 2, 3, 6, 99, 100, 101, HIGHEST};
        for (int q : states) {
            for (int letter = 0; letter <= 4; letter++) {
                CHECK.due("goes(" + q + ", " + letter + ")", x.goes(q, letter), NONE);
            }
        }
        hundredStates();
    }

    private static void hundredStates() {
        TransducerBench x = sequential(6, ">5 0/ 5-3:1-0 5-3:2-1 5-3:3-2 5-3:4-3 5-3:5-4 0-1:-4 1-1:-1 2-1:-3 3-1:-2 4-1:-0 0-2:-2"
                + " 1-2:-0 2-2:-1 4-2:-3 0-3:-0 1-3:-1 2-3:-2 3-3:-3 4-3:-4");
        int last = 0;
        for (int q = 0; q < 100; q++) {
            for (int letter = 1; letter <= 3; letter++) {
                last = Math.max(last, x.goes(q, letter));
            }
        }
        CHECK.due("the last of a hundred STATES is gone to", last, 99);
        CHECK.due("it goes somewhere", x.goes(99, 1) >= 0, true);
        CHECK.due("the hundred-and-first", x.goes(100, 1), NONE);
    }

    /** Asked in each state of the LEAST machine: there is one, or there is none. */
    private static void dueThere(TransducerBench x, String call, boolean is) {
        CHECK.due("goes() " + call, x.goes(0, 1), is ? 0 : NONE);
        CHECK.due("writes() " + call, x.writes(0, 1, 0), is ? 5 : WITHOUT);
        CHECK.due("writes() of the END " + call, x.writes(0, 0, 0), is ? NONE : WITHOUT);
        CHECK.due("the BEGIN WORD " + call, x.writes(NONE, 0, 0), is ? NONE : WITHOUT);
        CHECK.due("act() " + call, x.act(1), is ? 1 : NONE);
    }

    private static void promise19Latest() {
        CHECK.sentence("(that of the latest sequential() that was not NONE; none unless it was 1)");
        TransducerBench x = bench(1, ">0 0/ 0-1:5-0");
        dueThere(x, "ahead of any", false);
        CHECK.due("no machine", x.sequential(2), NONE);
        dueThere(x, "ahead of any but a NONE", false);
        CHECK.due("a 1", x.sequential(0), 1);
        dueThere(x, "behind a 1", true);
        x.arc(0, 0, 1, 0, 6);
        CHECK.due("a NONE", x.sequential(0), NONE);
        dueThere(x, "behind a NONE", true);
        Make.guess(x, 0);
        CHECK.due("a 0", x.sequential(0), 0);
        dueThere(x, "behind a 0", false);
        CHECK.due("no machine", x.sequential(-1), NONE);
        dueThere(x, "behind a 0 and a NONE", false);
        Make.oneState(x, 1, 0, 5);
        CHECK.due("a 1 again", x.sequential(1), 1);
        dueThere(x, "behind a 1 again", true);
        Make.tokens(x, 0);
        CHECK.due("a 2", x.sequential(0), 2);
        dueThere(x, "behind a 2", false);
        for (int asked = 4; asked < 24; asked++) {
            CHECK.due("a 1 of many", x.sequential(1), 1);
        }
        CHECK.due("a -2", x.sequential(0), WITHOUT);
        dueThere(x, "behind a -2", true);
        x.machine(1, 0);
        x.machine(0, 0);
        dueThere(x, "without the machine that it was made of", true);
    }

    private static void promise20Which() {
        CHECK.sentence("of the ARC of STATE q by a letter; with letter 0 of the END of q; with q NONE the BEGIN WORD");
        TransducerBench x = sequential(2, ">0 0-1:12-1 0-2:13-1 1-1:41-1 1/45");
        CHECK.due("the LEAST machine", View.least(x), "1 0-1:24-1 0-2:34-1 1/5 1-1:14-1");
        int[] all = {LOWEST, -3, -2, -1, 0, 1, 2, 3, 4, 5, HIGHEST};
        String[][] due = {{"none", "24", "34", "none"}, {"5", "14", "none", "none"}};
        for (int letter : all) {
            for (int q : all) {
                boolean there = (q == 0 || q == 1) && letter >= 0 && letter <= 3;
                String word = q == NONE ? "1" : there ? due[q][letter] : "none";
                CHECK.due("writes(" + q + ", " + letter + ")", View.writes(x, q, letter), word);
            }
        }
        CHECK.sentence("(no letters without STATES)");
        x.machine(0, 0);
        CHECK.due("sequential()", x.sequential(0), 1);
        for (int letter : all) {
            CHECK.due("the BEGIN WORD", View.writes(x, NONE, letter), "");
            CHECK.due("of a STATE", View.writes(x, 0, letter), "none");
        }
    }

    private static void promise20Letters() {
        CHECK.sentence("(All \"k-th letters\" here: NONE for k below 0 of a WORD that is there; without it -2, whatever k is.)");
        int[] others = {LOWEST, -2, -1, 3, 4, 239, 240, 241, HIGHEST};
        TransducerBench x = bench(3, ">0 0-1:1-1 0-2:123-1 1-1:456-0 1-2:-1 1/789");
        for (int k : others) {
            CHECK.due("ahead of any", x.writes(NONE, 0, k), WITHOUT);
        }
        CHECK.due("sequential()", x.sequential(0), 1);
        CHECK.due("the LEAST machine", View.least(x), "1 0-1:-1 0-2:23-1 1/789 1-1:4561-0 1-2:-1");
        CHECK.due("the first letter of the BEGIN WORD", x.writes(NONE, 0, 0), 1);
        CHECK.due("no second one", x.writes(NONE, 0, 1), NONE);
        CHECK.due("the last letter of an END", x.writes(1, 0, 2), 9);
        CHECK.due("the last letter of an ARC", x.writes(1, 1, 3), 1);
        CHECK.due("no fifth one", x.writes(1, 1, 4), NONE);
        CHECK.due("no letters of an ARC", x.writes(0, 1, 0), NONE);
        for (int k : others) {
            CHECK.due("the BEGIN WORD, " + k, x.writes(NONE, 0, k), NONE);
            CHECK.due("an END, " + k, x.writes(1, 0, k), NONE);
            CHECK.due("an ARC, " + k, x.writes(0, 2, k), NONE);
            CHECK.due("an ARC without letters, " + k, x.writes(0, 1, k), NONE);
            CHECK.due("no END, " + k, x.writes(0, 0, k), WITHOUT);
            CHECK.due("no ARC, " + k, x.writes(0, 3, k), WITHOUT);
            CHECK.due("no letter, " + k, x.writes(0, 4, k), WITHOUT);
            CHECK.due("no STATE, " + k, x.writes(2, 0, k), WITHOUT);
            CHECK.due("no STATE below, " + k, x.writes(-2, 1, k), WITHOUT);
        }
    }

    private static void promise21() {
        CHECK.sentence("What the LEAST machine writes for an input WORD (a number of at most 9 letters): how many letters");
        TransducerBench x = sequential(2, ">0 0-1:123-1 1-1:456-1 1-3:7-0 1/999 0-2:-1");
        CHECK.due("one", x.act(1), 6);
        CHECK.due("nine, the most", x.act(111_111_111), 30);
        CHECK.due("its letters", View.acted(x), "123" + "456".repeat(8) + "999");
        CHECK.due("another nine", View.act(x, 231_312_131), "none");
        CHECK.due("another nine that are read", View.act(x, 232_323_232), "7777999");
        CHECK.due("two and back", View.act(x, 232), "7999");
        x = sequential(1, ">0 0/ 0-1:-0");
        CHECK.due("none of none", x.act(0), 0);
        CHECK.due("none of nine", x.act(111_111_111), 0);
        x = sequential(3, ">0 0-1:12-1 1-2:34-2 2/56");
        CHECK.due("with the BEGIN WORD", View.act(x, 12), "123456");
        x = sequential(1, ">0 0/456");
        CHECK.due("the BEGIN WORD alone", View.act(x, 0), "456");
    }

    private static void promise21None() {
        CHECK.sentence("NONE: nothing is read so, or there is no such machine or WORD.");
        TransducerBench x = bench(2, ">0 1/5 0-1:1-1 1-2:-0 1-3:3-1");
        CHECK.due("ahead of any", x.act(1), NONE);
        CHECK.due("sequential()", x.sequential(0), 1);
        CHECK.due("act()", x.act(1), 2);
        int[] notRead = {0, 2, 3, 11, 12, 13_112, 22, 111_111_111, 333_333_333, 121_212_122};
        for (int word : notRead) {
            CHECK.due("act(" + word + ")", x.act(word), NONE);
        }
        int[] none = {LOWEST, -11, -1, 4, 10, 14, 20, 101, 110, 133_333_334, 133_333_330, 1_000_000_000, 1_111_111_111,
            1_333_333_333, 2_133_333_333, HIGHEST};
        for (int word : none) {
            CHECK.due("act(" + word + ")", x.act(word), NONE);
        }
        CHECK.due("the highest of nine letters that is read", x.act(133_333_333), 10);
        x.machine(0, 0);
        CHECK.due("act() as it was", x.act(1), 2);
        CHECK.due("a LEAST machine without STATES", x.sequential(0), 1);
        CHECK.due("act() of it", x.act(0), NONE);
        CHECK.due("act() of it", x.act(1), NONE);
    }

    private static void promise22Letters() {
        CHECK.sentence("The k-th letter");
        TransducerBench x = sequential(1, ">0 0/456 0-1:123-0 0-2:7-0");
        int[] others = {LOWEST, -2, -1, 30, 31, 32, HIGHEST};
        for (int k : others) {
            CHECK.due("acted(" + k + ") ahead of any", x.acted(k), NONE);
        }
        CHECK.due("acted(0) ahead of any", x.acted(0), NONE);
        CHECK.due("act()", x.act(111_111_111), 30);
        CHECK.due("the first one", x.acted(0), 1);
        CHECK.due("the thirtieth", x.acted(29), 6);
        for (int k : others) {
            CHECK.due("acted(" + k + ")", x.acted(k), NONE);
        }
        CHECK.due("act()", x.act(2), 4);
        CHECK.due("the fourth one", x.acted(3), 6);
        CHECK.due("the fifth one, of the one ahead", x.acted(4), NONE);
    }

    private static void promise22Latest() {
        CHECK.sentence("of the latest act() that was not NONE");
        TransducerBench x = bench(1, ">0 0/4 0-1:12-0");
        x.act(1);
        CHECK.due("ahead of any", x.acted(0), NONE);
        CHECK.due("sequential()", x.sequential(0), 1);
        CHECK.due("act()", x.act(11), 5);
        CHECK.due("nothing is read so", x.act(12), NONE);
        CHECK.due("no WORD", x.act(14), NONE);
        CHECK.due("as it was", View.acted(x), "12124");
        x.apply(0, 1);
        x.functional(0);
        Make.guess(x, 0);
        CHECK.due("a 0", x.sequential(0), 0);
        CHECK.due("no machine", x.act(1), NONE);
        CHECK.due("as it was still", View.acted(x), "12124");
        Make.oneState(x, 0, 0);
        CHECK.due("a 1", x.sequential(0), 1);
        CHECK.due("as it was yet", View.acted(x), "12124");
        CHECK.due("act() of no letters", x.act(0), 0);
        CHECK.due("no letters", x.acted(0), NONE);
    }
}
