/** Each sentence of the document's "Terms" that names a boundary case: the last that is so,
        and the first that isn't. */
final class TermsTest {
    private static final int NONE = TransducerBench.NONE;
    private static final int WITHOUT = -2;
    private static final Check CHECK = new Check();

    public static void main(String[] args) {
        callsOfAnObject();
        inputLetters();
        outputLetters();
        lesserWords();
        firstLetterHighest();
        emptyWord();
        machines();
        states();
        beginningOrNot();
        endOrWithout();
        arcs();
        wordsOfArcs();
        sameArc();
        waysOfTheEmptyWord();
        ways();
        outputOfAWay();
        outputsEachOnce();
        useful();
        functional();
        readers();
        same();
        witnessIsTheLeast();
        witnessOfFunctional();
        witnessAfterWitness();
        witnessOfSame();
        witnessOfReaders();
        CHECK.finish("TermsTest");
    }

    /** A new object with machine 0 as Make's notation tells it. */
    private static TransducerBench bench(int states, String told) {
        return bench(states, told, 0, "");
    }

    private static TransducerBench bench(int states, String told, int otherStates, String otherTold) {
        TransducerBench x = new TransducerBench();
        Make.machine(x, 0, states, told);
        Make.machine(x, 1, otherStates, otherTold);
        return x;
    }

    // "What it is"

    private static void callsOfAnObject() {
        CHECK.sentence("An object is used for at most 512 calls after it has been made");
        TransducerBench x = new TransducerBench();
        int calls = Make.machine(x, 0, 2, ">0 0/ 0-1:1-0 0-2:2-1 1-3:3-0");
        calls += Make.machine(x, 1, 2, ">0 0/ 0-1:1-0 0-2:2-1 1-3:4-0");
        for (int asked = 1; calls + 4 <= 498; asked++, calls += 4) {
            CHECK.due("same() of many", x.same(), 0);
            CHECK.due("apply() of many", x.apply(0, 123123123), 1);
            CHECK.due("sequential() of many", x.sequential(0), asked <= 24 ? 1 : WITHOUT);
            CHECK.due("act() of many", x.act(123123123), 9);
        }
        for (; calls < 498; calls++) {
            CHECK.due("readers() of many", x.readers(), 1);
        }
        calls += Make.machine(x, 0, 3, ">2 2-3:78-0 0/9 1/9 1-1:-1 2-2:-2 0-1:5-2");
        CHECK.due("functional(), the 507th", x.functional(0), 1);
        CHECK.due("same()", x.same(), 0);
        CHECK.due("witness()", x.witness(0), NONE);
        CHECK.due("apply()", x.apply(0, 3), 1);
        CHECK.due("output()", x.output(0, 2), 9);
        CHECK.due("wrote(), the 512th", x.wrote(1, 0), NONE);
        CHECK.due("calls in all", calls + 6, 512);
        for (int i = 0; i < 1000; i++) {
            x.sequential(i & 1);
            x.apply(0, 32);
            x.same();
            x.arc(0, i % 3, i % 4, i % 3, i % 10);
        }
    }

    // I

    private static void inputLetters() {
        CHECK.sentence("WORDS of input letters 1, 2, 3");
        TransducerBench x = bench(1, ">0 0/ 0-1:1-0 0-2:2-0 0-3:3-0");
        CHECK.due("sequential()", x.sequential(0), 1);
        for (int letter = 0; letter <= 9; letter++) {
            boolean is = letter >= 1 && letter <= 3;
            CHECK.due("arc() reading " + letter, x.arc(0, 0, letter, 0, letter), is ? 3 : NONE);
            for (int unit = 1; unit <= 100_000_000; unit *= 10) {
                int word = 222_222_222 + (letter - 2) * unit;
                boolean eight = letter == 0 && unit == 100_000_000;
                CHECK.due("apply(" + word + ")", x.apply(0, word), is || eight ? 1 : NONE);
                CHECK.due("act(" + word + ")", x.act(word), eight ? 8 : is ? 9 : NONE);
            }
        }
    }

    private static void outputLetters() {
        CHECK.sentence("WORDS of output letters 1 to 9");
        for (int word = 0; word <= 999; word++) {
            TransducerBench x = bench(1, ">0");
            boolean is = Integer.toString(word).indexOf('0') < 0 || word == 0;
            CHECK.due("arc() writing " + word, x.arc(0, 0, 1, 0, word), is ? 1 : NONE);
            CHECK.due("ends() with " + word, x.ends(0, 0, word), is);
            String written = word == 0 ? "" : Integer.toString(word);
            CHECK.due("outputs", View.outputs(x, 0, 1), is ? "<" + written + written + ">" : "");
        }
    }

    private static void lesserWords() {
        CHECK.sentence("Shorter ones are less; of one length the first letter that is unlike tells.");
        TransducerBench x = bench(2, ">0 1/");
        int[] words = {211, 99, 1, 112, 21, 0, 999, 9, 111, 12, 121, 91, 2, 19, 11};
        for (int word : words) {
            x.arc(0, 0, 1, 1, word);
        }
        CHECK.due("outputs", View.outputs(x, 0, 1),
                "<> <1> <2> <9> <11> <12> <19> <21> <91> <99> <111> <112> <121> <211> <999>");
        String[][] pairs = {{"3", "11"}, {"33", "111"}, {"12", "13"}, {"13", "21"}, {"122", "211"}, {"131", "132"}};
        for (String[] pair : pairs) {
            for (int which = 0; which < 2; which++) {
                String first = spelled(pair[which], 1);
                String second = spelled(pair[1 - which], 3);
                TransducerBench y = bench(6, ">0 0/ " + first + second, 1, ">0 0/");
                CHECK.due("readers()", y.readers(), 0);
                CHECK.due("the least WORD", View.witness(y), pair[0]);
            }
        }
    }

    /** ARCS from STATE 0 that read a word of at most 3 letters, by way of the STATES that are given, to STATE 5. */
    private static String spelled(String word, int state) {
        StringBuilder arcs = new StringBuilder("5/ ");
        int at = 0;
        for (int k = 0; k < word.length(); k++) {
            int to = k == word.length() - 1 ? 5 : state + k;
            arcs.append(at).append('-').append(word.charAt(k)).append(":-").append(to).append(' ');
            at = to;
        }
        return arcs.toString();
    }

    private static void firstLetterHighest() {
        CHECK.sentence("As a number a WORD's letters are its decimal digits, the first one highest");
        TransducerBench x = bench(4, ">0 0-1:123-1 1-2:4-2 2-3:56-3 3/789");
        CHECK.due("apply(123)", View.outputs(x, 0, 123), "<123456789>");
        CHECK.due("apply(321)", View.outputs(x, 0, 321), "");
        CHECK.due("sequential()", x.sequential(0), 1);
        CHECK.due("act(123)", View.act(x, 123), "123456789");
        CHECK.due("act(321)", View.act(x, 321), "none");
    }

    private static void emptyWord() {
        CHECK.sentence("0 is the empty WORD.");
        TransducerBench x = bench(2, ">0");
        CHECK.due("ends() with it", x.ends(0, 1, 0), true);
        CHECK.due("arc() writing it", x.arc(0, 0, 1, 1, 0), 1);
        CHECK.due("apply() of it: no END at once", x.apply(0, 0), 0);
        CHECK.due("apply()", x.apply(0, 1), 1);
        CHECK.due("an output without letters", x.output(0, 0), NONE);
        CHECK.due("ends() where it begins", x.ends(0, 0, 7), true);
        CHECK.due("apply() of it", View.outputs(x, 0, 0), "<7>");
        CHECK.due("sequential()", x.sequential(0), 1);
        CHECK.due("act() of it", x.act(0), 1);
        CHECK.due("act(1)", x.act(1), 0);
        CHECK.due("acted()", x.acted(0), NONE);
    }

    private static void machines() {
        CHECK.sentence("MACHINES 0 and 1");
        TransducerBench x = bench(1, ">0 0/4", 1, ">0 0/5");
        CHECK.due("machine 0", View.outputs(x, 0, 0), "<4>");
        CHECK.due("machine 1", View.outputs(x, 1, 0), "<5>");
        int[] others = {-1, 2, 3, Integer.MIN_VALUE, Integer.MAX_VALUE};
        for (int t : others) {
            CHECK.due("machine()", x.machine(t, 1), false);
            CHECK.due("begins()", x.begins(t, 0, true), false);
            CHECK.due("ends()", x.ends(t, 0, 0), false);
            CHECK.due("arc()", x.arc(t, 0, 1, 0, 0), NONE);
            CHECK.due("copy()", x.copy(t), false);
            CHECK.due("take()", x.take(t), false);
            CHECK.due("size()", x.size(t, 0), NONE);
            CHECK.due("useful()", x.useful(t, 0), NONE);
            CHECK.due("apply()", x.apply(t, 0), NONE);
            CHECK.due("functional()", x.functional(t), NONE);
            CHECK.due("sequential()", x.sequential(t), NONE);
        }
    }

    private static void states() {
        CHECK.sentence("STATES 0 .. n - 1 (n 1 to 6; 0 at first: none)");
        for (int n = 0; n <= 6; n++) {
            TransducerBench x = new TransducerBench();
            for (int t = 0; t < 2; t++) {
                CHECK.due("a STATE at first", x.useful(t, 0), NONE);
                x.machine(t, n);
                CHECK.due("size()", x.size(t, 0), n);
                for (int q = -1; q <= 7; q++) {
                    boolean is = q >= 0 && q < n;
                    CHECK.due("useful(" + q + ") of " + n, x.useful(t, q), is ? 0 : NONE);
                    CHECK.due("begins(" + q + ") of " + n, x.begins(t, q, true), is);
                    CHECK.due("ends(" + q + ") of " + n, x.ends(t, q, 1), is);
                    CHECK.due("arc() from " + q + " of " + n, x.arc(t, q, 1, n - 1, 1), is ? q + 1 : NONE);
                }
                for (int q = -1; q <= 7; q++) {
                    boolean is = q >= 0 && q < n;
                    CHECK.due("arc() to " + q + " of " + n, x.arc(t, n - 1, 2, q, 1), is ? n + q + 1 : NONE);
                }
            }
        }
    }

    private static void beginningOrNot() {
        CHECK.sentence("each BEGINNING or not");
        for (int set = 0; set < 64; set++) {
            TransducerBench x = bench(6, "0/1 1/2 2/3 3/4 4/5 5/6");
            StringBuilder due = new StringBuilder();
            for (int q = 0; q < 6; q++) {
                x.begins(0, q, (set >> q & 1) != 0);
                if ((set >> q & 1) != 0) {
                    due.append(due.length() == 0 ? "" : " ").append('<').append(q + 1).append('>');
                }
            }
            CHECK.due("outputs", View.outputs(x, 0, 0), due.toString());
        }
    }

    private static void endOrWithout() {
        CHECK.sentence("each with an END (an output WORD of at most 3 letters) or without");
        TransducerBench x = bench(6, ">0 >1 >2 >3 >4 >5");
        CHECK.due("all without", View.outputs(x, 0, 0), "");
        int[] words = {0, 1, 99, 111, 999, 998};
        for (int q = 0; q < 6; q++) {
            CHECK.due("ends()", x.ends(0, q, words[q]), true);
        }
        CHECK.due("all with one", View.outputs(x, 0, 0), "<> <1> <99> <111> <998> <999>");
        int[] others = {1111, 9999, 11111, 111111111, 1111111111, Integer.MAX_VALUE};
        for (int word : others) {
            CHECK.due("ends() with more than 3 letters", x.ends(0, 0, word), false);
        }
        CHECK.due("as it was", View.outputs(x, 0, 0), "<> <1> <99> <111> <998> <999>");
        for (int q = 0; q < 6; q++) {
            CHECK.due("ends() without", x.ends(0, q, NONE), true);
        }
        CHECK.due("all without again", View.outputs(x, 0, 0), "");
    }

    private static void arcs() {
        CHECK.sentence("ARCS, 30 at most");
        TransducerBench x = bench(6, ">0 1/ 2/");
        for (int i = 0; i < 29; i++) {
            CHECK.due("one of the first 29", x.arc(0, 3, 1 + i % 3, 4, 1 + i / 3 % 9 + 10 * (1 + i / 27)), i + 1);
        }
        CHECK.due("the 30th", x.arc(0, 0, 1, 1, 1), 30);
        CHECK.due("the 31st", x.arc(0, 0, 1, 2, 2), NONE);
        CHECK.due("size()", x.size(0, 1), 30);
        CHECK.due("the 30th alone is there", View.outputs(x, 0, 1), "<1>");
        CHECK.due("the other machine has room", x.machine(1, 1) && x.arc(1, 0, 1, 0, 1) == 1, true);
    }

    private static void wordsOfArcs() {
        CHECK.sentence("from a STATE, an input letter, to a STATE, an output WORD of at most 3 letters");
        TransducerBench x = bench(2, ">0 1/");
        CHECK.due("no letter", x.arc(0, 0, 1, 1, 0), 1);
        CHECK.due("3 letters", x.arc(0, 0, 1, 1, 111), 2);
        CHECK.due("3 letters, the highest", x.arc(0, 0, 1, 1, 999), 3);
        int[] others = {-1, -11, 1111, 9999, 11111, 111111111, Integer.MAX_VALUE, Integer.MIN_VALUE};
        for (int word : others) {
            CHECK.due("arc() writing " + word, x.arc(0, 0, 1, 1, word), NONE);
        }
        CHECK.due("outputs", View.outputs(x, 0, 1), "<> <111> <999>");
    }

    private static void sameArc() {
        CHECK.sentence("(the same arc told twice is one)");
        TransducerBench x = bench(2, "");
        int count = 0;
        for (int from = 0; from < 2; from++) {
            for (int letter = 1; letter <= 3; letter++) {
                for (int to = 0; to < 2; to++) {
                    for (int word = 0; word <= 1; word++) {
                        count++;
                        CHECK.due("another one", x.arc(0, from, letter, to, word), count);
                        CHECK.due("the same one", x.arc(0, from, letter, to, word), count);
                    }
                }
            }
        }
        for (; count < 30; count++) {
            CHECK.due("another WORD", x.arc(0, 1, 3, 1, count), count + 1);
        }
        CHECK.due("the same one of 30", x.arc(0, 0, 1, 0, 0), 30);
        CHECK.due("the same one of 30, the last", x.arc(0, 1, 3, 1, 29), 30);
        CHECK.due("another one than 30", x.arc(0, 1, 3, 1, 31), NONE);
    }

    private static void waysOfTheEmptyWord() {
        CHECK.sentence("ARCS, one for each of its letters, from a BEGINNING STATE");
        CHECK.due("none for no letters", View.outputs(bench(1, ">0 0/5"), 0, 0), "<5>");
        CHECK.due("no END", View.outputs(bench(2, ">0 1/5 0-1:-1"), 0, 0), "");
        CHECK.due("not BEGINNING", View.outputs(bench(2, ">0 1/5"), 0, 0), "");
        CHECK.due("no STATES", View.outputs(bench(0, ""), 0, 0), "");
    }

    private static void ways() {
        CHECK.sentence("one behind the other, to a STATE with an END");
        TransducerBench x = bench(3, ">0 0-1:-1 1-2:-2 2/7");
        int[] words = {0, 1, 2, 3, 11, 12, 21, 22, 121, 122, 1212};
        for (int word : words) {
            CHECK.due("apply(" + word + ")", View.outputs(x, 0, word), word == 12 ? "<7>" : "");
        }
        CHECK.due("not joined", View.outputs(bench(4, ">0 0-1:-1 2-2:-3 3/"), 0, 12), "");
        CHECK.due("nine ARCS", View.outputs(bench(2, ">0 0-1:1-1 1-2:2-0 1/"), 0, 121212121), "<121212121>");
        CHECK.due("not to an END", View.outputs(bench(2, ">0 0-1:1-1 1-2:2-0 0/"), 0, 121212121), "");
    }

    private static void outputOfAWay() {
        CHECK.sentence("Its output: the ARCS' WORDS, one behind the other, then that END.");
        TransducerBench x = bench(4, ">0 0-1:1-1 1-1:-2 2-1:234-3 0/7 1/8 2/9 3/56");
        CHECK.due("END alone", View.outputs(x, 0, 0), "<7>");
        CHECK.due("one ARC", View.outputs(x, 0, 1), "<18>");
        CHECK.due("two ARCS", View.outputs(x, 0, 11), "<19>");
        CHECK.due("three ARCS", View.outputs(x, 0, 111), "<123456>");
        CHECK.due("nothing is written", View.outputs(bench(1, ">0 0/ 0-1:-0"), 0, 111111111), "<>");
        String most = "123".repeat(9) + "456";
        CHECK.due("thirty letters", View.outputs(bench(1, ">0 0/456 0-1:123-0"), 0, 111111111), "<" + most + ">");
    }

    private static void outputsEachOnce() {
        CHECK.sentence("The OUTPUTS of a WORD: those of all its WAYS, each once.");
        CHECK.due("no WAY", View.outputs(bench(1, ">0 0/"), 0, 1), "");
        CHECK.due("two WAYS, one output", View.outputs(bench(4, ">0 0-1:12-1 1-1:3-3 0-1:1-2 2-1:23-3 3/4"), 0, 11),
                "<1234>");
        CHECK.due("two ENDS, one output", View.outputs(bench(3, ">0 0-1:12-1 0-1:1-2 1/3 2/23"), 0, 1), "<123>");
        CHECK.due("two BEGINNINGS, one output", View.outputs(bench(2, ">0 >1 0/3 1/3"), 0, 0), "<3>");
        CHECK.due("two outputs", View.outputs(bench(2, ">0 >1 0/3 1/33"), 0, 0), "<3> <33>");
        CHECK.due("five WAYS", View.outputs(bench(2, ">0 0-1:1-0 0-1:2-0 0-1:1-1 0/ 1/2"), 0, 1), "<1> <2> <12>");
    }

    private static void dueUseful(String call, String due, TransducerBench x) {
        StringBuilder got = new StringBuilder();
        int count = 0;
        for (int q = 0; q < x.size(0, 0); q++) {
            got.append(x.useful(0, q));
            count += x.useful(0, q);
        }
        CHECK.due(call, got.toString(), due);
        CHECK.due(call + ", size()", x.size(0, 2), count);
    }

    private static void useful() {
        CHECK.sentence("A STATE is USEFUL if a WAY of some WORD goes through it.");
        dueUseful("no STATES", "", bench(0, ""));
        dueUseful("neither BEGINNING nor with an END", "0", bench(1, "0-1:-0"));
        dueUseful("BEGINNING alone", "0", bench(1, ">0 0-1:-0"));
        dueUseful("an END alone", "0", bench(1, "0/ 0-1:-0"));
        dueUseful("both: the WAY of the empty WORD", "1", bench(1, ">0 0/"));
        dueUseful("not joined", "00", bench(2, ">0 1/ 1-1:-0"));
        dueUseful("joined", "11", bench(2, ">0 1/ 0-1:-1"));
        dueUseful("no way out", "1010", bench(4, ">0 2/ 0-1:-1 0-1:-2 2-1:-3 3-1:-3 1-1:-1"));
        dueUseful("no way in", "1001", bench(4, ">0 3/ 0-1:-3 1-1:-3 2-1:-1 1-2:-2"));
        dueUseful("the longest way", "111111", bench(6, ">3 3-1:-5 5-1:-1 1-1:-0 0-1:-4 4-1:-2 2/"));
        dueUseful("one ARC is missing in it", "000000", bench(6, ">3 3-1:-5 5-1:-1 0-1:-4 4-1:-2 2/"));
        dueUseful("by way of a loop", "111", bench(3, ">0 0/ 0-1:-1 1-1:-2 2-1:-0"));
    }

    // II

    private static void functional() {
        CHECK.sentence("FUNCTIONAL: no WORD has two OUTPUTS.");
        CHECK.due("no STATES", bench(0, "").functional(0), 1);
        CHECK.due("no OUTPUTS", bench(2, ">0 >1 0-1:1-0 0-1:2-1").functional(0), 1);
        CHECK.due("one each", bench(1, ">0 0/ 0-1:1-0 0-2:1-0").functional(0), 1);
        CHECK.due("two WAYS, one output", bench(4, ">0 0-1:12-1 1-1:3-3 0-1:1-2 2-1:23-3 3/4").functional(0), 1);
        CHECK.due("two outputs of the empty WORD", bench(2, ">0 >1 0/3 1/").functional(0), 0);
        CHECK.due("two outputs of the empty WORD, one of them no WAY's", bench(2, ">0 0/3 1/").functional(0), 1);
        CHECK.due("two ARCS", bench(1, ">0 0/ 0-1:1-0 0-1:-0").functional(0), 0);
        CHECK.due("two ARCS to no END", bench(2, ">0 0/ 0-1:1-1 0-1:-1").functional(0), 1);
        CHECK.due("two ARCS from no BEGINNING", bench(2, ">0 0/ 1-1:1-0 1-1:-0").functional(0), 1);
        CHECK.due("two ARCS from 0, no BEGINNING", bench(2, ">1 1/ 0-1:1-1 0-1:-1").functional(0), 1);
        CHECK.due("two far behind", bench(6,
                ">0 0-1:1-0 0-2:-1 1-2:-2 2-2:-3 3-2:-4 4-3:2-5 4-3:3-5 5/").functional(0), 0);
        CHECK.due("unlike on the way, alike at the END", bench(3,
                ">0 0-1:111-1 0-1:-2 1/1 2/111 2-1:-2").functional(0), 0);
        CHECK.due("now alike", bench(3, ">0 0-1:11-1 0-1:-2 1/1 2/111 2-2:-2").functional(0), 1);
    }

    private static void readers() {
        CHECK.sentence("READERS: the WORDS with an output.");
        CHECK.due("none, none", bench(0, "", 3, ">0 0-1:-1 2/").readers(), 1);
        CHECK.due("none, the empty one", bench(3, ">0 0-1:-1 2/", 1, ">0 0/").readers(), 0);
        CHECK.due("the empty one, none", bench(1, ">0 0/", 0, "").readers(), 0);
        CHECK.due("the empty one, 1 alone", bench(1, ">0 0/", 2, ">0 0-1:-1 1/").readers(), 0);
        CHECK.due("with other outputs, and with two", bench(1, ">0 0/1 0-1:1-0", 2,
                ">0 >1 0/ 1/2 0-1:3-1 1-1:-0").readers(), 1);
        CHECK.due("all of one letter, all but one", bench(1, ">0 0/ 0-1:-0", 3,
                ">0 0/ 0-1:-1 1/ 1-1:-2 2-1:-2").readers(), 0);
    }

    private static void same() {
        CHECK.sentence("of both FUNCTIONAL machines all WORDS have the same OUTPUTS, or none on both sides");
        CHECK.due("none on both sides", bench(0, "", 2, ">0 1/").same(), 1);
        CHECK.due("none on the one side", bench(0, "", 1, ">0 0/").same(), 0);
        CHECK.due("none on the other side", bench(1, ">0 0/", 0, "").same(), 0);
        CHECK.due("the same, otherwise made", bench(1, ">0 0/ 0-1:12-0", 2, ">0 0/ 1/2 0-1:1-1 1-1:21-1").same(), 1);
        CHECK.due("other END", bench(1, ">0 0/ 0-1:12-0", 2, ">0 0/ 1/3 0-1:1-1 1-1:21-1").same(), 0);
        CHECK.due("longer END", bench(1, ">0 0/ 0-1:12-0", 2, ">0 0/ 1/22 0-1:1-1 1-1:21-1").same(), 0);
        CHECK.due("neither is FUNCTIONAL, both alike", bench(1, ">0 0/ 0-1:1-0 0-1:2-0", 1,
                ">0 0/ 0-1:1-0 0-1:2-0").same(), NONE);
    }

    private static void witnessIsTheLeast() {
        CHECK.sentence("The WITNESS of an answer 0: the least WORD that shows it");
        dueFunctional("the empty one", bench(2, ">0 >1 0/3 1/ 0-1:-0"), ": , 3");
        dueFunctional("the shorter one", bench(3, ">0 0-1:-1 1-1:1-2 1-1:2-2 0-3:4-2 0-3:5-2 2/"), "3: 4, 5");
        dueFunctional("the lesser one", bench(4, ">0 0-1:-1 1-3:1-2 1-3:2-2 0-2:-3 3-1:4-2 3-1:5-2 2/"), "13: 1, 2");
        dueFunctional("the lesser one, told last", bench(4, ">0 0-2:-3 3-1:4-2 3-1:5-2 0-1:-1 1-3:1-2 1-3:2-2 2/"),
                "13: 1, 2");
        String both = ">0 0-1:-1 0-2:-2 1-3:-3 2-1:-3 3/";
        dueSame("written 13, read 21", bench(4, both, 4, ">0 0-1:-1 0-2:-2 1-3:7-3 3/"), "13: , 7");
        dueSame("read 13, written 21", bench(4, both, 4, ">0 0-1:-1 0-2:-2 2-1:7-3 3/"), "13: , none");
        dueSame("written 3, read 11", bench(3, ">0 0-3:1-2 0-1:-1 1-1:-2 2/", 3, ">0 0-3:2-2 0-1:-1 2/"), "3: 1, 2");
        dueSame("read 3, written 11", bench(3, ">0 0-3:1-2 0-1:-1 1-1:1-2 2/", 3, ">0 0-1:-1 1-1:2-2 2/"),
                "3: 1, none");
        dueSame("the empty one", bench(1, ">0 0/1 0-1:-0", 1, ">0 0/2"), ": 1, 2");
    }

    private static void dueFunctional(String call, TransducerBench x, String shown) {
        CHECK.due(call, x.functional(0), 0);
        CHECK.due(call, View.shown(x), shown);
    }

    private static void dueSame(String call, TransducerBench x, String shown) {
        CHECK.due(call, x.same(), 0);
        CHECK.due(call, View.shown(x), shown);
    }

    private static void dueReaders(String call, TransducerBench x, String shown) {
        CHECK.due(call, x.readers(), 0);
        CHECK.due(call, View.shown(x), shown);
    }

    private static void witnessOfFunctional() {
        CHECK.sentence("of functional() the least one and the next one");
        dueFunctional("two", bench(1, ">0 0/ 0-1:2-0 0-1:1-0"), "1: 1, 2");
        dueFunctional("of four", bench(1, ">0 0/ 0-1:21-0 0-1:3-0 0-1:11-0 0-1:111-0"), "1: 3, 11");
        dueFunctional("of four, the least ones last", bench(1, ">0 0/ 0-1:111-0 0-1:21-0 0-1:11-0 0-1:-0"), "1: , 11");
        dueFunctional("each once", bench(3, ">0 >1 >2 0/2 1/2 2/1"), ": 1, 2");
        dueFunctional("each once, the least one twice", bench(3, ">0 >1 >2 0/1 1/2 2/1"), ": 1, 2");
        dueFunctional("with what is behind them", bench(3, ">0 0-1:1-1 0-1:2-1 1-2:34-2 2/56"), "12: 13456, 23456");
        dueFunctional("not of a WORD ahead of it", bench(3, ">0 0/ 0-1:-1 1-2:3-2 1-2:2-2 2/"), "12: 2, 3");
        dueFunctional("not of two ahead of it", bench(4, ">0 0-1:-1 1/ 1-1:-2 2/ 2-1:4-3 2-1:5-3 3/"), "111: 4, 5");
        dueFunctional("by STATES with other outputs", bench(3, ">0 0-1:1-1 0-1:3-1 0-1:-2 1/ 2/2"), "1: 1, 2");
    }

    private static void witnessAfterWitness() {
        CHECK.sentence("The WITNESS of an answer 0");
        String[][] machines = {{">0 >1 >2 >3 >4 >5 0/ 1/1 2/2 3/3 4/4 5/5", ": , 1"},
            {">0 0-1:1-1 0-1:2-1 1/", "1: 1, 2"}, {">0 0-1:555-2 0-1:666-2 1-1:-2 2/", "1: 555, 666"},
            {">5 5-1:7-4 5-1:8-4 4/9", "1: 79, 89"}, {">4 4-2:78-3 4-2:88-3 4-2:99-3 3/9", "2: 789, 889"},
            {">3 3-2:77-2 2-3:-1 1-1:5-0 1-1:6-0 0/", "231: 775, 776"}, {">2 2-1:9-0 2-1:99-5 0/99 5/99", "1: 999, 9999"},
            {">0 0-3:-5 5-3:-0 0/ 5/ 0-1:-4 4-1:3-3 4-1:2-3 3/", "11: 2, 3"}};
        TransducerBench x = new TransducerBench();
        for (int i = 0; i < 2 * machines.length; i++) {
            String[] machine = machines[i < machines.length ? i : 2 * machines.length - 1 - i];
            Make.machine(x, i % 2, 6, machine[0]);
            CHECK.due("functional() of one more", x.functional(i % 2), 0);
            CHECK.due("it shows", View.shown(x), machine[1]);
        }
    }

    private static void witnessOfSame() {
        CHECK.sentence("of same() the output of machine 0, and of machine 1 (NONE of one that has none)");
        dueSame("of both", bench(1, ">0 0/21", 1, ">0 0/3"), ": 21, 3");
        dueSame("of both, without letters", bench(1, ">0 0/", 1, ">0 0/3"), ": , 3");
        dueSame("of 0 alone", bench(1, ">0 0/ 0-1:-0", 1, ">0 0/"), "1: , none");
        dueSame("of 1 alone", bench(1, ">0 0/", 1, ">0 0/ 0-3:5-0"), "3: none, 5");
    }

    private static void witnessOfReaders() {
        CHECK.sentence("of readers() likewise the least ones");
        dueReaders("of 0 the least", bench(1, ">0 0/ 0-2:9-0 0-2:11-0 0-2:8-0", 1, ">0 0/4"), "2: 8, none");
        dueReaders("of 1 the least", bench(0, "", 3, ">0 >1 >2 0/21 1/12 2/111"), ": none, 12");
        dueReaders("of 1 the least is without letters", bench(1, "0/", 2, ">0 >1 0/1 1/"), ": none, ");
    }
}
