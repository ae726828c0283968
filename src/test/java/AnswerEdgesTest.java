/** Each sentence of promises 12 to 22 that names a boundary case: the last that is so, and the first that isn't. */
final class AnswerEdgesTest {
    private static final int NONE = TransducerBench.NONE;
    private static final int WITHOUT = -2;
    private static final int LOWEST = Integer.MIN_VALUE;
    private static final int HIGHEST = Integer.MAX_VALUE;
    private static final int[] NO_MACHINES = {LOWEST, -2, -1, 2, 3, HIGHEST};
    private static final Check CHECK = new Check();
    private static final Edges EDGES = new Edges(CHECK);

    public static void main(String[] args) {
        promise12();
        promise13();
        promise14();
        promise15();
        promise15None();
        promise15Asked24Times();
        promise16Letters();
        promise16Latest();
        promise16Order();
        promise17Letters();
        promise17Which();
        promise18Latest();
        promise18Levels();
        promise18Least();
        promise18What();
        promise18Otherwise();
        promise19();
        promise19Latest();
        promise20Which();
        promise20Letters();
        promise21();
        promise21None();
        promise22Letters();
        promise22Latest();
        CHECK.finish("AnswerEdgesTest");
    }

    private static void promise12() {
        CHECK.sentence("FUNCTIONAL: 1, 0; NONE without such a machine.");
        TransducerBench x = Edges.bench(2, ">0 0-1:1-1 0-1:2-1");
        CHECK.due("1 without a WORD", x.functional(0), 1);
        CHECK.due("1 without STATES", x.functional(1), 1);
        x.ends(0, 1, 0);
        CHECK.due("0", x.functional(0), 0);
        CHECK.due("1 of the other one still", x.functional(1), 1);
        for (int t : NO_MACHINES) {
            EDGES.nothingHappens("functional(" + t + ")", y -> y.functional(t), NONE);
        }
        EDGES.nothingHappens("a 1", Edges::makeBusy, y -> y.functional(1), 1);
    }

    private static void promise13() {
        CHECK.sentence("READERS of both machines are the same: 1, 0.");
        TransducerBench x = Edges.bench(2, ">0 1/");
        CHECK.due("no WORDS on both sides", x.readers(), 1);
        x.begins(0, 1, true);
        CHECK.due("the empty one on the one side", x.readers(), 0);
        CHECK.due("it shows", View.shown(x), ": , none");
        Make.machine(x, 1, 1, ">0 0/5");
        CHECK.due("the empty one on both sides", x.readers(), 1);
        CHECK.due("the latest that was 0", View.shown(x), ": , none");
        x.arc(1, 0, 3, 0, 6);
        CHECK.due("more on the other side", x.readers(), 0);
        CHECK.due("then", View.shown(x), "3: none, 65");
        EDGES.nothingHappens("a 1", AnswerEdgesTest::makeNotFunctional, y -> y.readers(), 1);
    }

    /** Both machines read the same and aren't FUNCTIONAL. */
    private static void makeNotFunctional(TransducerBench x) {
        Make.machine(x, 0, 2, ">0 >1 0/1 1/2 0-1:1-0");
        Make.machine(x, 1, 1, ">0 0/ 0-1:1-0 0-1:2-0");
        x.functional(1);
    }

    private static void promise14() {
        CHECK.sentence("SAME: 1, 0; NONE if one is not FUNCTIONAL.");
        TransducerBench x = new TransducerBench();
        CHECK.due("without STATES", x.same(), 1);
        Make.machine(x, 0, 1, ">0 0/ 0-1:1-0");
        Make.machine(x, 1, 2, ">0 0/ 0-1:1-1 1/ 1-1:1-0");
        CHECK.due("1", x.same(), 1);
        CHECK.due("without a WITNESS", View.shown(x), "none: none, none");
        x.ends(1, 1, 2);
        CHECK.due("0", x.same(), 0);
        CHECK.due("it shows", View.shown(x), "1: 1, 12");
        x.ends(1, 1, 0);
        CHECK.due("1 again", x.same(), 1);
        CHECK.due("the latest that was 0", View.shown(x), "1: 1, 12");
        x.arc(1, 1, 1, 0, 3);
        CHECK.due("1 is not FUNCTIONAL", x.same(), NONE);
        x.copy(0);
        CHECK.due("neither is", x.same(), NONE);
        Make.machine(x, 1, 1, ">0 0/ 0-1:1-0");
        CHECK.due("0 is not FUNCTIONAL", x.same(), NONE);
    }
    private static void promise15() {
        CHECK.sentence("SEQUENTIAL: 1, 0, 2 UNTOLD");
        TransducerBench x = new TransducerBench();
        CHECK.due("without STATES", x.sequential(0), 1);
        Make.guess(x, 0);
        CHECK.due("a guess", x.sequential(0), 0);
        Make.tokens(x, 1);
        CHECK.due("too many SETS", x.sequential(1), 2);
        Make.machine(x, 0, 3, ">0 >1 >2 0/ 0-3:-1 1-2:12-0 0-3:-2 0-2:1-1 2-2:2-2 2-3:-0");
        CHECK.due("too many pairs", x.sequential(0), 2);
        Make.oneState(x, 1, 999, 999, 999, 999);
        CHECK.due("one STATE", x.sequential(1), 1);
    }

    private static void promise15None() {
        CHECK.sentence("NONE without such a machine, or if it is not FUNCTIONAL");
        for (int t : NO_MACHINES) {
            EDGES.nothingHappens("sequential(" + t + ")", x -> x.sequential(t), NONE);
        }
        TransducerBench x = Edges.bench(1, ">0 0/ 0-1:1-0");
        CHECK.due("FUNCTIONAL", x.sequential(0), 1);
        x.arc(0, 0, 1, 0, 2);
        CHECK.due("not FUNCTIONAL", x.sequential(0), NONE);
        CHECK.due("it shows", View.shown(x), "1: 1, 2");
        CHECK.due("told() of the one ahead", View.told(x), "1 1 1 1 1");
        CHECK.due("the LEAST machine of the one ahead", View.least(x), " 0/ 0-1:1-0");
        x.ends(0, 0, NONE);
        CHECK.due("FUNCTIONAL without an END", x.sequential(0), 1);
    }

    /** 24 answers, eight times 0, 2 and 1 each, the last one 1, with refused ones between them. */
    private static void makeAsked24Times(TransducerBench x) {
        Make.guess(x, 0);
        Make.tokens(x, 1);
        for (int round = 0; round < 8; round++) {
            CHECK.due("a 0", x.sequential(0), 0);
            CHECK.due("a 2", x.sequential(1), 2);
        }
        Make.oneState(x, 0, 0, 1);
        x.arc(0, 0, 1, 0, 2);
        Make.oneState(x, 1, 3, 4);
        for (int round = 0; round < 8; round++) {
            CHECK.due("a NONE", x.sequential(0), NONE);
            CHECK.due("no machine", x.sequential(2), NONE);
            CHECK.due("a 1", x.sequential(1), 1);
        }
        x.act(1);
        Make.oneState(x, 1, 5);
        x.readers();
    }

    private static void promise15Asked24Times() {
        CHECK.sentence("-2, and nothing changes (asked ahead of FUNCTIONAL): 24 times an answer was 0, 1 or 2.");
        TransducerBench x = new TransducerBench();
        makeAsked24Times(x);
        CHECK.due("the 25th of one that is not FUNCTIONAL", x.sequential(0), WITHOUT);
        CHECK.due("the 25th of one that is", x.sequential(1), WITHOUT);
        CHECK.due("no machine", x.sequential(2), NONE);
        CHECK.due("no machine below", x.sequential(-1), NONE);
        CHECK.due("the WITNESS of readers() stays", View.shown(x), "1: 1, none");
        CHECK.due("told() stays", View.told(x), "1 1 1 1 1");
        CHECK.due("the LEAST machine stays", View.least(x), " 0/3 0-1:4-0");
        CHECK.due("acted() stays", View.acted(x), "43");
        CHECK.due("act() goes on", View.act(x, 11), "443");
        Make.guess(x, 0);
        CHECK.due("one that would be 0", x.sequential(0), WITHOUT);
        CHECK.due("act() goes on still", View.act(x, 1), "43");
        CHECK.due("functional() goes on", x.functional(0), 1);
        for (int asked = 30; asked < 300; asked++) {
            CHECK.due("the " + asked + "th", x.sequential(asked % 2), WITHOUT);
        }
        CHECK.due("the LEAST machine stays to the end", View.least(x), " 0/3 0-1:4-0");
        for (int t = -1; t <= 2; t++) {
            int asked = t;
            EDGES.nothingHappens("the 25th, of machine " + t, AnswerEdgesTest::makeAsked24Times, y -> y.sequential(asked),
                    t == 0 || t == 1 ? WITHOUT : NONE);
        }
    }

    private static void promise16Letters() {
        CHECK.sentence("the k-th letter of the WITNESS; NONE behind its end; -2 without one.");
        int[] others = {LOWEST, -2, -1, 3, 4, 127, 128, HIGHEST};
        TransducerBench x = Edges.bench(4, ">0 0-1:-1 1-3:-2 2-2:-3 3/");
        for (int k : others) {
            CHECK.due("witness(" + k + ") ahead of any", x.witness(k), WITHOUT);
        }
        CHECK.due("readers()", x.readers(), 0);
        CHECK.due("the first one", x.witness(0), 1);
        CHECK.due("the second one", x.witness(1), 3);
        CHECK.due("the last one", x.witness(2), 2);
        for (int k : others) {
            CHECK.due("witness(" + k + ")", x.witness(k), NONE);
        }
        x.ends(0, 0, 0);
        CHECK.due("readers() by the empty WORD", x.readers(), 0);
        CHECK.due("no letters", x.witness(0), NONE);
        CHECK.due("no letters, k below", x.witness(-1), NONE);
    }

    private static void promise16Latest() {
        CHECK.sentence("Of the latest functional(), readers() or same() that was 0");
        TransducerBench x = Edges.bench(1, ">0 0/");
        x.functional(0);
        x.functional(2);
        x.sequential(0);
        CHECK.due("ahead of any that was 0", View.shown(x), "none: none, none");
        CHECK.due("readers()", x.readers(), 0);
        CHECK.due("of readers()", View.shown(x), ": , none");
        x.arc(0, 0, 2, 0, 6);
        x.arc(0, 0, 2, 0, 5);
        CHECK.due("functional()", x.functional(0), 0);
        CHECK.due("of functional()", View.shown(x), "2: 5, 6");
        CHECK.due("a 1 of the other machine", x.functional(1), 1);
        CHECK.due("as it was", View.shown(x), "2: 5, 6");
        Make.oneState(x, 0, 0, 1, 5);
        Make.oneState(x, 1, 0, 1, 6);
        CHECK.due("readers() that is 1", x.readers(), 1);
        CHECK.due("as it was then", View.shown(x), "2: 5, 6");
        x.ends(1, 0, 9);
        CHECK.due("same()", x.same(), 0);
        CHECK.due("of same()", View.shown(x), ": , 9");
        x.copy(1);
        CHECK.due("same() that is 1", x.same(), 1);
        CHECK.due("a 1 of sequential()", x.sequential(0), 1);
        CHECK.due("a call on no machine", x.functional(-1), NONE);
        Make.full(x, 0);
        x.machine(1, 0);
        CHECK.due("whatever the machines are by now", View.shown(x), ": , 9");
    }

    private static void promise16Order() {
        CHECK.sentence("(also as sequential(), same() ask whether a machine is FUNCTIONAL; same() asks machine 0 first, 1 only if that is)");
        TransducerBench x = new TransducerBench();
        Make.oneState(x, 0, 0, 7, 1);
        x.arc(0, 0, 2, 0, 2);
        Make.oneState(x, 1, 0, 3);
        x.arc(1, 0, 1, 0, 4);
        CHECK.due("same() of neither", x.same(), NONE);
        CHECK.due("0 is asked first", View.shown(x), "2: 1, 2");
        CHECK.due("sequential() of 1", x.sequential(1), NONE);
        CHECK.due("of sequential()", View.shown(x), "1: 3, 4");
        CHECK.due("sequential() of 0", x.sequential(0), NONE);
        CHECK.due("of sequential() then", View.shown(x), "2: 1, 2");
        x.machine(0, 1);
        CHECK.due("same() with 0 FUNCTIONAL", x.same(), NONE);
        CHECK.due("1 is asked then", View.shown(x), "1: 3, 4");
        Make.oneState(x, 0, 0, 8);
        x.arc(0, 0, 1, 0, 9);
        Make.oneState(x, 1, 0);
        CHECK.due("same() with 1 FUNCTIONAL", x.same(), NONE);
        CHECK.due("0 shows", View.shown(x), "1: 8, 9");
    }

    private static void promise17Letters() {
        CHECK.sentence("The k-th letter of its first (0) or second (1) output; NONE behind its end");
        TransducerBench x = Edges.bench(1, ">0 0/ 0-1:-0 0-1:789-0");
        CHECK.due("functional()", x.functional(0), 0);
        CHECK.due("no letters", x.wrote(0, 0), NONE);
        CHECK.due("the first one", x.wrote(1, 0), 7);
        CHECK.due("the last one", x.wrote(1, 2), 9);
        int[] others = {LOWEST, -2, -1, 3, 4, 386, 387, 388, HIGHEST};
        for (int k : others) {
            CHECK.due("wrote(0, " + k + ")", x.wrote(0, k), NONE);
            CHECK.due("wrote(1, " + k + ")", x.wrote(1, k), NONE);
        }
    }

    private static void promise17Which() {
        CHECK.sentence("-2 without it, or such an output.");
        int[] all = {LOWEST, -2, -1, 0, 1, 2, 3, HIGHEST};
        TransducerBench x = Edges.bench(1, ">0 0/ 0-3:45-0");
        for (int which : all) {
            for (int k : all) {
                CHECK.due("wrote(" + which + ", " + k + ") without a WITNESS", x.wrote(which, k), WITHOUT);
            }
        }
        Make.machine(x, 1, 1, ">0 0/");
        CHECK.due("readers()", x.readers(), 0);
        for (int which : all) {
            for (int k : all) {
                int due = k == 0 ? 4 : k == 1 ? 5 : NONE;
                CHECK.due("wrote(" + which + ", " + k + ") of 0 alone", x.wrote(which, k), which == 0 ? due : WITHOUT);
            }
        }
        x.arc(1, 0, 2, 0, 0);
        CHECK.due("same()", x.same(), 0);
        for (int which : all) {
            for (int k : all) {
                CHECK.due("wrote(" + which + ", " + k + ") of 1 alone", x.wrote(which, k), which == 1 ? NONE : WITHOUT);
            }
        }
        x.ends(1, 0, 6);
        CHECK.due("same() of both", x.same(), 0);
        for (int which : all) {
            CHECK.due("wrote(" + which + ", 0)", x.wrote(which, 0), which == 1 ? 6 : which == 0 ? NONE : WITHOUT);
        }
    }

    private static void promise18Latest() {
        CHECK.sentence("NONE ahead of any (one that was NONE counts as none).");
        TransducerBench x = Edges.bench(1, ">0 0/ 0-1:1-0 0-1:2-0");
        CHECK.due("ahead of any", View.told(x), "-1 -1 -1 -1 -1");
        CHECK.due("not FUNCTIONAL", x.sequential(0), NONE);
        CHECK.due("no machine", x.sequential(2), NONE);
        CHECK.due("ahead of any but NONE", View.told(x), "-1 -1 -1 -1 -1");
        CHECK.due("a 1", x.sequential(1), 1);
        CHECK.due("of one without STATES", View.told(x), "0 0 0 0 0");
        CHECK.due("not FUNCTIONAL behind it", x.sequential(0), NONE);
        CHECK.due("no machine behind it", x.sequential(-1), NONE);
        CHECK.due("as it was", View.told(x), "0 0 0 0 0");
        Make.oneState(x, 1, 0, 1);
        CHECK.due("another 1", x.sequential(1), 1);
        x.machine(1, 0);
        CHECK.due("the latest", View.told(x), "1 1 1 1 1");
    }

    private static void promise18Levels() {
        CHECK.sentence("what 0: levels of TWINS that brought a new one");
        TransducerBench x = new TransducerBench();
        CHECK.due("sequential()", x.sequential(0), 1);
        CHECK.due("no level", x.told(0), 0);
        Make.oneState(x, 0, 0);
        CHECK.due("sequential()", x.sequential(0), 1);
        CHECK.due("level 0 alone", x.told(0), 1);
        x.arc(0, 0, 1, 0, 5);
        CHECK.due("sequential()", x.sequential(0), 1);
        CHECK.due("level 1 brings no new one", x.told(0), 1);
        Make.machine(x, 0, 2, ">0 1/ 0-1:-1 1-1:-1");
        CHECK.due("sequential()", x.sequential(0), 1);
        CHECK.due("level 1 brings one, level 2 none", x.told(0), 2);
        Make.machine(x, 0, 2, ">0 >1 0/ 0-1:1-0 1-1:-1 1-2:-0");
        CHECK.due("sequential()", x.sequential(0), 0);
        CHECK.due("level 5 brings one that is too long", x.told(0), 6);
    }

    private static void promise18Least() {
        CHECK.sentence("3: STATES of the LEAST machine, 4: its ARCS (3, 4: NONE unless it was 1)");
        TransducerBench x = Edges.bench(2, ">0 1/ 0-1:1-1 0-2:2-1 1-3:3-1");
        CHECK.due("ahead of any", x.told(3) == NONE && x.told(4) == NONE, true);
        CHECK.due("a 1", x.sequential(0), 1);
        CHECK.due("STATES", x.told(3), 2);
        CHECK.due("ARCS", x.told(4), 3);
        Make.guess(x, 1);
        CHECK.due("a 0", x.sequential(1), 0);
        CHECK.due("none then", x.told(3) == NONE && x.told(4) == NONE, true);
        CHECK.due("a 1 again", x.sequential(0), 1);
        CHECK.due("again", x.told(3) * 10 + x.told(4), 23);
        Make.tokens(x, 1);
        CHECK.due("a 2", x.sequential(1), 2);
        CHECK.due("none then", x.told(3) == NONE && x.told(4) == NONE, true);
        x.machine(1, 0);
        CHECK.due("a 1 without STATES", x.sequential(1), 1);
        CHECK.due("none at all", x.told(3) * 10 + x.told(4), 0);
    }

    private static void promise18What() {
        CHECK.sentence("NONE for another what.");
        int[] others = {LOWEST, -2, -1, 5, 6, HIGHEST};
        TransducerBench x = new TransducerBench();
        for (int what : others) {
            CHECK.due("told(" + what + ") ahead of any", x.told(what), NONE);
        }
        Make.machine(x, 0, 3, ">0 0/ 0-1:12-1 0-1:1-2 1-2:-0 2-3:-0");
        CHECK.due("sequential()", x.sequential(0), 1);
        CHECK.due("told()", View.told(x), "2 5 2 2 3");
        for (int what : others) {
            CHECK.due("told(" + what + ")", x.told(what), NONE);
        }
    }

    private static void promise18Otherwise() {
        CHECK.sentence("1: pairs with DELAYS (1001 if they are more), 2: SETS (101 if they are more; NONE if TWINS ended otherwise)");
        TransducerBench x = new TransducerBench();
        Make.machine(x, 0, 6,
                ">0 >2 >3 >4 >5 5/ 0-3:21-3 3-3:-1 0-2:-4 3-2:2-3 2-3:1-0 0-1:21-0 2-1:111-3 2-2:211-0 1-1:111-4"
                + " 5-3:112-4 1-1:21-2 1-1:1-3 1-1:1-5 5-1:2-2 1-3:211-4 4-2:11-1 2-1:222-4");
        CHECK.due("sequential()", x.sequential(0), 2);
        CHECK.due("1000 pairs, more than 100 SETS", View.told(x), "11 1000 101 -1 -1");
        Make.machine(x, 0, 3, ">0 >1 >2 0/ 0-3:-1 1-2:12-0 0-3:-2 0-2:1-1 2-2:2-2 2-3:-0");
        CHECK.due("sequential()", x.sequential(0), 2);
        CHECK.due("1001 pairs: no SETS", View.told(x), "13 1001 -1 -1 -1");
        Make.guess(x, 0);
        CHECK.due("sequential()", x.sequential(0), 0);
        CHECK.due("a 0: no SETS", View.told(x), "11 25 -1 -1 -1");
        Make.tokens(x, 0);
        CHECK.due("sequential()", x.sequential(0), 2);
        CHECK.due("more than 100 SETS: no LEAST machine", View.told(x), "10 406 101 -1 -1");
        CHECK.due("none to take", x.take(1), false);
    }
    private static void promise19() {
        CHECK.sentence("where STATE q goes by a letter; NONE.");
        TransducerBench x = EDGES.sequential(3, ">2 2-1:-2 2-3:-0 0-2:1-2 0-3:-0 0/5");
        int[][] due = {{0, NONE, 1}, {NONE, 0, 1}};
        int[] others = {LOWEST, -2, -1, 0, 4, 5, HIGHEST};
        for (int q = 0; q < 2; q++) {
            for (int letter = 1; letter <= 3; letter++) {
                CHECK.due("goes(" + q + ", " + letter + ")", x.goes(q, letter), due[q][letter - 1]);
            }
            for (int letter : others) {
                CHECK.due("goes(" + q + ", " + letter + ")", x.goes(q, letter), NONE);
            }
        }
        int[] states = {LOWEST, -2, -1, 2, 3, 6, 99, 100, 101, HIGHEST};
        for (int q : states) {
            for (int letter = 0; letter <= 4; letter++) {
                CHECK.due("goes(" + q + ", " + letter + ")", x.goes(q, letter), NONE);
            }
        }
        hundredStates();
    }

    private static void hundredStates() {
        TransducerBench x = EDGES.sequential(6,
                ">5 0/ 5-3:1-0 5-3:2-1 5-3:3-2 5-3:4-3 5-3:5-4 0-1:-4 1-1:-1 2-1:-3 3-1:-2 4-1:-0 0-2:-2"
                + " 1-2:-0 2-2:-1 4-2:-3 0-3:-0 1-3:-1 2-3:-2 3-3:-3 4-3:-4");
        int last = 0;
        for (int q = 0; q < 100; q++) {
            for (int letter = 1; letter <= 3; letter++) {
                last = Math.max(last, x.goes(q, letter));
            }
        }
        CHECK.due("the last of a hundred STATES is gone to", last, 99);
        CHECK.due("it goes somewhere", x.goes(99, 1) >= 0, true);
        CHECK.due("the hundred-and-first", x.goes(100, 1), NONE);
    }

    /** Asked in each state of the LEAST machine: there is one, or there is none. */
    private static void dueThere(TransducerBench x, String call, boolean is) {
        CHECK.due("goes() " + call, x.goes(0, 1), is ? 0 : NONE);
        CHECK.due("writes() " + call, x.writes(0, 1, 0), is ? 5 : WITHOUT);
        CHECK.due("writes() of the END " + call, x.writes(0, 0, 0), is ? NONE : WITHOUT);
        CHECK.due("the BEGIN WORD " + call, x.writes(NONE, 0, 0), is ? NONE : WITHOUT);
        CHECK.due("goes() of a second STATE " + call, x.goes(1, 1), NONE);
        CHECK.due("writes() of a second STATE " + call, x.writes(1, 0, 0), WITHOUT);
        CHECK.due("act() " + call, x.act(1), is ? 1 : NONE);
    }

    private static void promise19Latest() {
        CHECK.sentence("(that of the latest sequential() that was not NONE; none unless it was 1)");
        TransducerBench x = Edges.bench(1, ">0 0/ 0-1:5-0");
        dueThere(x, "ahead of any", false);
        CHECK.due("no machine", x.sequential(2), NONE);
        dueThere(x, "ahead of any but a NONE", false);
        CHECK.due("a 1", x.sequential(0), 1);
        dueThere(x, "behind a 1", true);
        x.arc(0, 0, 1, 0, 6);
        CHECK.due("a NONE", x.sequential(0), NONE);
        dueThere(x, "behind a NONE", true);
        Make.guess(x, 0);
        CHECK.due("a 0", x.sequential(0), 0);
        dueThere(x, "behind a 0", false);
        CHECK.due("no machine", x.sequential(-1), NONE);
        dueThere(x, "behind a 0 and a NONE", false);
        Make.oneState(x, 1, 0, 5);
        CHECK.due("a 1 again", x.sequential(1), 1);
        dueThere(x, "behind a 1 again", true);
        Make.tokens(x, 0);
        CHECK.due("a 2", x.sequential(0), 2);
        dueThere(x, "behind a 2", false);
        for (int asked = 4; asked < 24; asked++) {
            CHECK.due("a 1 of many", x.sequential(1), 1);
        }
        CHECK.due("a -2", x.sequential(0), WITHOUT);
        dueThere(x, "behind a -2", true);
        x.machine(1, 0);
        x.machine(0, 0);
        dueThere(x, "without the machine that it was made of", true);
    }

    private static void promise20Which() {
        CHECK.sentence("of the ARC of STATE q by a letter; with letter 0 of the END of q; with q NONE the BEGIN WORD");
        TransducerBench x = EDGES.sequential(2, ">0 0-1:12-1 0-2:13-1 1-1:41-1 1/45");
        CHECK.due("the LEAST machine", View.least(x), "1 0-1:24-1 0-2:34-1 1/5 1-1:14-1");
        int[] all = {LOWEST, -3, -2, -1, 0, 1, 2, 3, 4, 5, HIGHEST};
        String[][] due = {{"none", "24", "34", "none"}, {"5", "14", "none", "none"}};
        for (int letter : all) {
            for (int q : all) {
                boolean there = (q == 0 || q == 1) && letter >= 0 && letter <= 3;
                String word = q == NONE ? "1" : there ? due[q][letter] : "none";
                CHECK.due("writes(" + q + ", " + letter + ")", View.writes(x, q, letter), word);
            }
        }
        CHECK.sentence("(no letters without STATES)");
        x.machine(0, 0);
        CHECK.due("sequential()", x.sequential(0), 1);
        for (int letter : all) {
            CHECK.due("the BEGIN WORD", View.writes(x, NONE, letter), "");
            CHECK.due("of a STATE", View.writes(x, 0, letter), "none");
        }
    }

    private static void promise20Letters() {
        CHECK.sentence("(All \"k-th letters\" here: NONE for k below 0 of a WORD that is there; without it -2, whatever k is.)");
        int[] others = {LOWEST, -2, -1, 3, 4, 239, 240, 241, HIGHEST};
        TransducerBench x = Edges.bench(3, ">0 0-1:1-1 0-2:123-1 1-1:456-0 1-2:-1 1/789");
        for (int k : others) {
            CHECK.due("ahead of any", x.writes(NONE, 0, k), WITHOUT);
        }
        CHECK.due("sequential()", x.sequential(0), 1);
        CHECK.due("the LEAST machine", View.least(x), "1 0-1:-1 0-2:23-1 1/789 1-1:4561-0 1-2:-1");
        CHECK.sentence("NONE behind its end; -2 without such.");
        CHECK.due("the first letter of the BEGIN WORD", x.writes(NONE, 0, 0), 1);
        CHECK.due("no second one", x.writes(NONE, 0, 1), NONE);
        CHECK.due("the last letter of an END", x.writes(1, 0, 2), 9);
        CHECK.due("the last letter of an ARC", x.writes(1, 1, 3), 1);
        CHECK.due("no fifth one", x.writes(1, 1, 4), NONE);
        CHECK.due("no letters of an ARC", x.writes(0, 1, 0), NONE);
        for (int k : others) {
            CHECK.due("the BEGIN WORD, " + k, x.writes(NONE, 0, k), NONE);
            CHECK.due("an END, " + k, x.writes(1, 0, k), NONE);
            CHECK.due("an ARC, " + k, x.writes(0, 2, k), NONE);
            CHECK.due("an ARC without letters, " + k, x.writes(0, 1, k), NONE);
            CHECK.due("no END, " + k, x.writes(0, 0, k), WITHOUT);
            CHECK.due("no ARC, " + k, x.writes(0, 3, k), WITHOUT);
            CHECK.due("no letter, " + k, x.writes(0, 4, k), WITHOUT);
            CHECK.due("no STATE, " + k, x.writes(2, 0, k), WITHOUT);
            CHECK.due("no STATE below, " + k, x.writes(-2, 1, k), WITHOUT);
        }
    }

    private static void promise21() {
        CHECK.sentence("What the LEAST machine writes for an input WORD (a number of at most 9 letters): how many letters");
        TransducerBench x = EDGES.sequential(2, ">0 0-1:123-1 1-1:456-1 1-3:7-0 1/999 0-2:-1");
        CHECK.due("one", x.act(1), 6);
        CHECK.due("nine, the most", x.act(111_111_111), 30);
        CHECK.due("its letters", View.acted(x), "123" + "456".repeat(8) + "999");
        CHECK.due("another nine", View.act(x, 231_312_131), "none");
        CHECK.due("another nine that are read", View.act(x, 232_323_232), "7777999");
        CHECK.due("two and back", View.act(x, 232), "7999");
        x = EDGES.sequential(1, ">0 0/ 0-1:-0");
        CHECK.due("none of none", x.act(0), 0);
        CHECK.due("none of nine", x.act(111_111_111), 0);
        x = EDGES.sequential(3, ">0 0-1:12-1 1-2:34-2 2/56");
        CHECK.due("with the BEGIN WORD", View.act(x, 12), "123456");
        x = EDGES.sequential(1, ">0 0/456");
        CHECK.due("the BEGIN WORD alone", View.act(x, 0), "456");
    }

    private static void promise21None() {
        CHECK.sentence("NONE: nothing is read so, or there is no such machine or WORD.");
        TransducerBench x = Edges.bench(2, ">0 1/5 0-1:1-1 1-2:-0 1-3:3-1");
        CHECK.due("ahead of any", x.act(1), NONE);
        CHECK.due("sequential()", x.sequential(0), 1);
        CHECK.due("act()", x.act(1), 2);
        int[] notRead = {0, 2, 3, 11, 12, 13_112, 22, 111_111_111, 333_333_333, 121_212_122};
        for (int word : notRead) {
            CHECK.due("act(" + word + ")", x.act(word), NONE);
        }
        int[] none = {LOWEST, -11, -1, 4, 10, 14, 20, 101, 110, 133_333_334, 133_333_330, 1_000_000_000, 1_111_111_111,
            1_333_333_333, 2_133_333_333, HIGHEST};
        for (int word : none) {
            CHECK.due("act(" + word + ")", x.act(word), NONE);
        }
        CHECK.due("the highest of nine letters that is read", x.act(133_333_333), 10);
        x.machine(0, 0);
        CHECK.due("act() as it was", x.act(1), 2);
        CHECK.due("a LEAST machine without STATES", x.sequential(0), 1);
        CHECK.due("act() of it", x.act(0), NONE);
        CHECK.due("act() of it", x.act(1), NONE);
    }

    private static void promise22Letters() {
        CHECK.sentence("The k-th letter");
        TransducerBench x = EDGES.sequential(1, ">0 0/456 0-1:123-0 0-2:7-0");
        int[] others = {LOWEST, -2, -1, 30, 31, 32, HIGHEST};
        for (int k : others) {
            CHECK.due("acted(" + k + ") ahead of any", x.acted(k), NONE);
        }
        CHECK.due("acted(0) ahead of any", x.acted(0), NONE);
        CHECK.due("act()", x.act(111_111_111), 30);
        CHECK.due("the first one", x.acted(0), 1);
        CHECK.due("the thirtieth", x.acted(29), 6);
        for (int k : others) {
            CHECK.due("acted(" + k + ")", x.acted(k), NONE);
        }
        CHECK.due("act()", x.act(2), 4);
        CHECK.due("the fourth one", x.acted(3), 6);
        CHECK.due("the fifth one, of the one ahead", x.acted(4), NONE);
    }

    private static void promise22Latest() {
        CHECK.sentence("of the latest act() that was not NONE");
        TransducerBench x = Edges.bench(1, ">0 0/4 0-1:12-0");
        x.act(1);
        CHECK.due("ahead of any", x.acted(0), NONE);
        CHECK.due("sequential()", x.sequential(0), 1);
        CHECK.due("act()", x.act(11), 5);
        CHECK.due("nothing is read so", x.act(12), NONE);
        CHECK.due("no WORD", x.act(14), NONE);
        CHECK.due("as it was", View.acted(x), "12124");
        x.apply(0, 1);
        x.functional(0);
        Make.guess(x, 0);
        CHECK.due("a 0", x.sequential(0), 0);
        CHECK.due("no machine", x.act(1), NONE);
        CHECK.due("as it was still", View.acted(x), "12124");
        Make.oneState(x, 0, 0);
        CHECK.due("a 1", x.sequential(0), 1);
        CHECK.due("as it was yet", View.acted(x), "12124");
        CHECK.due("act() of no letters", x.act(0), 0);
        CHECK.due("no letters", x.acted(0), NONE);
    }
}
