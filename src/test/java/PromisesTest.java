/** Each promise of the document, one test or more: ordinary inputs, the edges that it names, and wrong inputs. */
final class PromisesTest {
    private static final int NONE = TransducerBench.NONE;
    private static final Check CHECK = new Check();

    public static void main(String[] args) {
        promise1NewObject();
        promise2Machine();
        promise3Begins();
        promise4Ends();
        promise5Arc();
        promise6Copy();
        promise7Take();
        promise8Size();
        promise9Useful();
        promise10Apply();
        promise10TooManyPairs();
        promise11Output();
        promise12Functional();
        promise12LongDelays();
        promise13Readers();
        promise14Same();
        promise15Sequential();
        promise15Untold();
        promise15Asked24Times();
        promise16Witness();
        promise17Wrote();
        promise18Told();
        promise19Goes();
        promise20Writes();
        promise21Act();
        promise22Acted();
        CHECK.finish("PromisesTest");
    }

    private static void dueTold(TransducerBench x, int levels, int pairs, int sets, int states, int arcs) {
        int[] want = {levels, pairs, sets, states, arcs};
        for (int what = 0; what < want.length; what++) {
            CHECK.due("told(" + what + ")", x.told(what), want[what]);
        }
    }

    // The promises

    private static void promise1NewObject() {
        TransducerBench x = new TransducerBench();
        for (int t = 0; t < 2; t++) {
            for (int what = 0; what <= 2; what++) {
                CHECK.due("1 size", x.size(t, what), 0);
            }
            CHECK.due("1 begins", x.begins(t, 0, true), false);
            CHECK.due("1 useful", x.useful(t, 0), NONE);
            CHECK.due("1 apply", x.apply(t, 0), 0);
        }
        CHECK.due("1 NONE", TransducerBench.NONE, -1);
        CHECK.due("1 readers", x.readers(), 1);
        CHECK.due("1 same", x.same(), 1);
        CHECK.due("1 witness", x.witness(0), -2);
        CHECK.due("1 told", x.told(0), NONE);
        CHECK.due("1 act", x.act(0), NONE);
    }

    private static void promise2Machine() {
        TransducerBench x = new TransducerBench();
        CHECK.due("2 six", x.machine(0, 6), true);
        CHECK.due("2 states", x.size(0, 0), 6);
        CHECK.due("2 other", x.size(1, 0), 0);
        x.begins(0, 3, true);
        x.ends(0, 3, 12);
        x.arc(0, 3, 1, 3, 1);
        CHECK.due("2 seven", x.machine(0, 7), false);
        CHECK.due("2 negative", x.machine(0, -1), false);
        CHECK.due("2 no machine", x.machine(2, 1), false);
        CHECK.due("2 no machine below", x.machine(-1, 1), false);
        CHECK.due("2 huge", x.machine(Integer.MAX_VALUE, Integer.MIN_VALUE), false);
        CHECK.due("2 nothing happened", x.apply(0, 11), 1);
        CHECK.due("2 new", x.machine(0, 6), true);
        CHECK.due("2 no arcs", x.size(0, 1), 0);
        CHECK.due("2 no end, not beginning", x.apply(0, 0), 0);
        x.begins(0, 3, true);
        CHECK.due("2 no end", x.apply(0, 0), 0);
        CHECK.due("2 zero", x.machine(0, 0), true);
        CHECK.due("2 zero states", x.size(0, 0), 0);
    }

    private static void promise3Begins() {
        TransducerBench x = new TransducerBench();
        x.machine(0, 2);
        x.ends(0, 1, 0);
        CHECK.due("3 before", x.apply(0, 0), 0);
        CHECK.due("3 begins", x.begins(0, 1, true), true);
        CHECK.due("3 after", x.apply(0, 0), 1);
        CHECK.due("3 again", x.begins(0, 1, true), true);
        CHECK.due("3 not", x.begins(0, 1, false), true);
        CHECK.due("3 after not", x.apply(0, 0), 0);
        CHECK.due("3 no state", x.begins(0, 2, true), false);
        CHECK.due("3 no state below", x.begins(0, -1, true), false);
        CHECK.due("3 other machine", x.begins(1, 0, true), false);
        CHECK.due("3 no machine", x.begins(2, 0, true), false);
        CHECK.due("3 no machine below", x.begins(-1, 0, true), false);
    }

    private static void promise4Ends() {
        TransducerBench x = new TransducerBench();
        x.machine(0, 2);
        x.begins(0, 0, true);
        int[] good = {0, 1, 9, 19, 91, 999, 123};
        for (int word : good) {
            CHECK.due("4 end " + word, x.ends(0, 0, word), true);
            CHECK.due("4 output", x.apply(0, 0), 1);
            CHECK.due("4 word", View.output(x, 0), word == 0 ? "" : "" + word);
        }
        int[] bad = {-2, 10, 101, 110, 100, 1000, 1111, Integer.MAX_VALUE, Integer.MIN_VALUE};
        for (int word : bad) {
            CHECK.due("4 no end " + word, x.ends(0, 0, word), false);
        }
        x.apply(0, 0);
        CHECK.due("4 kept", View.output(x, 0), "123");
        CHECK.due("4 none", x.ends(0, 0, NONE), true);
        CHECK.due("4 without", x.apply(0, 0), 0);
        CHECK.due("4 no state", x.ends(0, 2, 0), false);
        CHECK.due("4 no state below", x.ends(0, -1, 0), false);
        CHECK.due("4 no machine", x.ends(2, 0, 0), false);
        CHECK.due("4 no machine, none", x.ends(-1, 0, NONE), false);
    }

    private static void promise5Arc() {
        TransducerBench x = new TransducerBench();
        x.machine(0, 6);
        CHECK.due("5 first", x.arc(0, 0, 1, 5, 0), 1);
        CHECK.due("5 same again", x.arc(0, 0, 1, 5, 0), 1);
        CHECK.due("5 other word", x.arc(0, 0, 1, 5, 999), 2);
        CHECK.due("5 other letter", x.arc(0, 0, 3, 5, 0), 3);
        CHECK.due("5 other goal", x.arc(0, 0, 1, 4, 0), 4);
        int[][] bad = {{0, 6, 1, 0, 0}, {0, -1, 1, 0, 0}, {0, 0, 0, 0, 0}, {0, 0, 4, 0, 0}, {0, 0, 1, 6, 0},
            {0, 0, 1, -1, 0}, {0, 0, 1, 0, -1}, {0, 0, 1, 0, 20}, {0, 0, 1, 0, 1111}, {1, 0, 1, 0, 0}, {2, 0, 1, 0, 0},
            {-1, 0, 1, 0, 0}, {0, 0, Integer.MIN_VALUE, 0, 0}};
        for (int[] a : bad) {
            CHECK.due("5 none", x.arc(a[0], a[1], a[2], a[3], a[4]), NONE);
        }
        CHECK.due("5 nothing happened", x.size(0, 1), 4);
        for (int word = 1; word <= 9; word++) {
            for (int letter = 1; letter <= 3; letter++) {
                int due = Math.min(30, 4 + (word - 1) * 3 + letter);
                CHECK.due("5 many", x.arc(0, 1, letter, 2, word), 4 + (word - 1) * 3 + letter > 30 ? NONE : due);
            }
        }
        CHECK.due("5 thirty", x.size(0, 1), 30);
        CHECK.due("5 one more", x.arc(0, 2, 1, 2, 1), NONE);
        CHECK.due("5 still thirty", x.size(0, 1), 30);
        CHECK.due("5 there already", x.arc(0, 0, 1, 5, 0), 30);
    }

    private static void promise6Copy() {
        TransducerBench x = new TransducerBench();
        Make.oneState(x, 0, 7, 1, 2, 3);
        CHECK.due("6 copy", x.copy(1), true);
        CHECK.due("6 arcs", x.size(1, 1), 3);
        CHECK.due("6 apply", x.apply(1, 321), 1);
        CHECK.due("6 output", View.output(x, 0), "3217");
        x.ends(0, 0, 8);
        x.apply(1, 0);
        CHECK.due("6 on its own", View.output(x, 0), "7");
        x.machine(0, 0);
        CHECK.due("6 back", x.copy(1), true);
        CHECK.due("6 empty", x.size(1, 0), 0);
        CHECK.due("6 no machine", x.copy(2), false);
        CHECK.due("6 no machine below", x.copy(-1), false);
    }

    private static void promise7Take() {
        TransducerBench x = new TransducerBench();
        CHECK.due("7 without", x.take(0), false);
        x.machine(0, 3);
        x.begins(0, 0, true);
        x.begins(0, 2, true);
        x.arc(0, 0, 1, 1, 0);
        x.arc(0, 1, 2, 0, 12);
        x.ends(0, 1, 1);
        CHECK.due("7 sequential", x.sequential(0), 1);
        CHECK.due("7 no machine", x.take(2), false);
        CHECK.due("7 no machine below", x.take(-1), false);
        CHECK.due("7 written ahead of all", View.writes(x, NONE, 0), "1");
        CHECK.due("7 a begin word", x.take(1), false);
        x.ends(0, 0, 3);
        x.arc(0, 0, 2, 0, 4);
        CHECK.due("7 sequential with more", x.sequential(0), 1);
        x.machine(1, 6);
        x.begins(1, 5, true);
        CHECK.due("7 take", x.take(1), true);
        CHECK.due("7 states", x.size(1, 0), 2);
        CHECK.due("7 arcs", x.size(1, 1), 3);
        CHECK.due("7 useful", x.size(1, 2), 2);
        CHECK.due("7 same", x.same(), 1);
        CHECK.due("7 take over its own", x.take(0), true);
        CHECK.due("7 again the same", x.same(), 1);
        Make.guess(x, 0);
        CHECK.due("7 not sequential", x.sequential(0), 0);
        CHECK.due("7 none then", x.take(1), false);
        CHECK.due("7 nothing happened", x.size(1, 0), 2);
        Make.oneState(x, 0, NONE);
        CHECK.due("7 no word", x.sequential(0), 1);
        CHECK.due("7 no states", x.take(1), true);
        CHECK.due("7 none left", x.size(1, 0), 0);
        takeLongWords(x);
        takeManyStates(x);
    }

    private static void takeLongWords(TransducerBench x) {
        x.machine(0, 3);
        x.begins(0, 0, true);
        x.ends(0, 0, 0);
        x.arc(0, 0, 1, 1, 12);
        x.arc(0, 1, 2, 2, 34);
        x.ends(0, 2, 0);
        CHECK.due("7 long", x.sequential(0), 1);
        CHECK.due("7 four letters at once", View.writes(x, 0, 1), "1234");
        CHECK.due("7 too long", x.take(1), false);
        x.machine(0, 2);
        x.begins(0, 0, true);
        x.ends(0, 0, 9);
        x.arc(0, 0, 1, 1, 1);
        x.ends(0, 1, 222);
        CHECK.due("7 three", x.sequential(0), 1);
        CHECK.due("7 four again", View.writes(x, 0, 1), "1222");
        CHECK.due("7 four is too long", x.take(1), false);
        x.arc(0, 1, 1, 0, 3);
        CHECK.due("7 three at the end", x.sequential(0), 1);
        CHECK.due("7 end", View.writes(x, 1, 0), "222");
        CHECK.due("7 three is not too long", x.take(1), true);
        CHECK.due("7 is the same", x.same(), 1);
    }

    private static void takeManyStates(TransducerBench x) {
        x.machine(0, 6);
        for (int q = 0; q < 5; q++) {
            x.arc(0, q, 1, q + 1, 0);
        }
        x.begins(0, 0, true);
        x.ends(0, 5, 0);
        CHECK.due("7 a chain", x.sequential(0), 1);
        CHECK.due("7 six", x.told(3), 6);
        CHECK.due("7 six is not too many", x.take(1), true);
        x.machine(0, 4);
        x.begins(0, 0, true);
        x.ends(0, 3, 0);
        for (int letter = 1; letter <= 2; letter++) {
            x.arc(0, 0, letter, 0, 0);
            x.arc(0, 1, letter, 2, 0);
            x.arc(0, 2, letter, 3, 0);
        }
        x.arc(0, 0, 1, 1, 0);
        CHECK.due("7 the last but two is a 1", x.sequential(0), 1);
        CHECK.due("7 eight", x.told(3), 8);
        CHECK.due("7 eight is too many", x.take(1), false);
    }

    private static void promise8Size() {
        TransducerBench x = new TransducerBench();
        x.machine(1, 4);
        x.begins(1, 0, true);
        x.arc(1, 0, 1, 1, 1);
        x.arc(1, 0, 1, 2, 1);
        x.ends(1, 1, 0);
        x.ends(1, 3, 0);
        CHECK.due("8 states", x.size(1, 0), 4);
        CHECK.due("8 arcs", x.size(1, 1), 2);
        CHECK.due("8 useful", x.size(1, 2), 2);
        CHECK.due("8 other", x.size(1, 3), NONE);
        CHECK.due("8 other below", x.size(1, -1), NONE);
        CHECK.due("8 no machine", x.size(2, 0), NONE);
        CHECK.due("8 no machine below", x.size(-1, 0), NONE);
    }

    private static void promise9Useful() {
        TransducerBench x = new TransducerBench();
        x.machine(0, 6);
        for (int q = 0; q < 5; q++) {
            x.arc(0, 5 - q, 1, 4 - q, 1);
        }
        x.begins(0, 5, true);
        x.ends(0, 0, 0);
        for (int q = 0; q < 6; q++) {
            CHECK.due("9 chain", x.useful(0, q), 1);
        }
        x.begins(0, 5, false);
        x.begins(0, 3, true);
        x.ends(0, 0, NONE);
        x.ends(0, 1, 0);
        int[] due = {0, 1, 1, 1, 0, 0};
        for (int q = 0; q < 6; q++) {
            CHECK.due("9 part", x.useful(0, q), due[q]);
        }
        CHECK.due("9 no state", x.useful(0, 6), NONE);
        CHECK.due("9 no state below", x.useful(0, -1), NONE);
        CHECK.due("9 no machine", x.useful(2, 0), NONE);
        CHECK.due("9 no machine below", x.useful(-1, 0), NONE);
    }

    private static void promise10Apply() {
        TransducerBench x = new TransducerBench();
        Make.oneState(x, 0, 9, 1, 22, 333);
        CHECK.due("10 empty", x.apply(0, 0), 1);
        CHECK.due("10 one", x.apply(0, 3), 1);
        CHECK.due("10 nine letters", x.apply(0, 333333333), 1);
        CHECK.due("10 long output", View.output(x, 0).length(), 28);
        int[] bad = {-1, 4, 10, 14, 120, 1111111111, 333333334, Integer.MAX_VALUE, Integer.MIN_VALUE};
        for (int word : bad) {
            CHECK.due("10 no word " + word, x.apply(0, word), NONE);
        }
        CHECK.due("10 no machine", x.apply(2, 1), NONE);
        CHECK.due("10 no machine below", x.apply(-1, 1), NONE);
        CHECK.due("10 kept", View.output(x, 0).length(), 28);
        x.arc(0, 0, 1, 0, 11);
        CHECK.due("10 each once", x.apply(0, 11), 3);
        CHECK.due("10 each once still", x.apply(0, 111111111), 10);
        x.machine(1, 2);
        x.begins(1, 0, true);
        x.begins(1, 1, true);
        x.ends(1, 0, 1);
        x.ends(1, 1, 1);
        CHECK.due("10 two ways, one output", x.apply(1, 0), 1);
        CHECK.due("10 no way", x.apply(1, 1), 0);
    }

    private static void promise10TooManyPairs() {
        TransducerBench x = new TransducerBench();
        x.machine(0, 6);
        x.begins(0, 0, true);
        for (int a = 0; a < 30; a++) {
            x.arc(0, 0, 1, a % 6, a / 6 + 1);
        }
        CHECK.due("10 thirty pairs, no end", x.apply(0, 1), 0);
        CHECK.due("10 next are five times five times six", x.apply(0, 11), -2);
        CHECK.due("10 nothing known", x.output(0, 0), -2);
        x.machine(0, 2);
        x.begins(0, 0, true);
        x.ends(0, 1, 0);
        for (int word = 1; word <= 6; word++) {
            x.arc(0, 0, 1, 0, word);
        }
        for (int word = 1; word <= 9; word++) {
            x.arc(0, 0, 2, 1, word);
        }
        for (int word = 1; word <= 4; word++) {
            x.arc(0, 0, 3, 1, word);
        }
        x.arc(0, 0, 3, 1, 55);
        CHECK.due("10 thirty-six without an end", x.apply(0, 11), 0);
        CHECK.due("10 fifty-four", x.apply(0, 12), 54);
        CHECK.due("10 too many", x.apply(0, 111), -2);
        CHECK.due("10 output behind it", x.output(0, 0), -2);
        x.machine(1, 2);
        x.begins(1, 0, true);
        x.ends(1, 1, 0);
        for (int word = 1; word <= 6; word++) {
            x.arc(1, 0, 1, 0, word);
            x.arc(1, 0, 2, 1, word);
        }
        for (int word = 1; word <= 4; word++) {
            x.arc(1, 0, 2, 1, word * 11);
        }
        CHECK.due("10 sixty", x.apply(1, 12), 60);
        CHECK.due("10 the sixtieth", View.output(x, 59), "644");
        CHECK.due("10 no more", x.output(60, 0), -2);
        x.begins(1, 1, true);
        x.arc(1, 1, 1, 1, 5);
        x.arc(1, 1, 2, 1, 5);
        CHECK.due("10 sixty-one: one by another way is new", x.apply(1, 12), 60);
        x.arc(1, 1, 2, 1, 9);
        CHECK.due("10 sixty-one pairs", x.apply(1, 12), -2);
    }

    private static void promise11Output() {
        TransducerBench x = new TransducerBench();
        CHECK.due("11 ahead of any", x.output(0, 0), -2);
        Make.oneState(x, 0, 0, 21);
        x.arc(0, 0, 1, 0, 12);
        x.arc(0, 0, 1, 0, 3);
        x.arc(0, 0, 1, 0, 0);
        CHECK.due("11 four", x.apply(0, 1), 4);
        String[] due = {"", "3", "12", "21"};
        for (int i = 0; i < 4; i++) {
            CHECK.due("11 the least first", View.output(x, i), due[i]);
            CHECK.due("11 behind its end", x.output(i, due[i].length()), NONE);
            CHECK.due("11 k below", x.output(i, -1), NONE);
        }
        CHECK.due("11 far behind", x.output(0, Integer.MAX_VALUE), NONE);
        CHECK.due("11 no output", x.output(4, 0), -2);
        CHECK.due("11 no output below", x.output(-1, 0), -2);
        CHECK.due("11 no output, k below", x.output(4, -1), -2);
        x.apply(0, -7);
        CHECK.due("11 none counts not", View.output(x, 3), "21");
        x.machine(0, 0);
        CHECK.due("11 as it was", View.output(x, 3), "21");
        x.apply(0, 1);
        CHECK.due("11 no outputs", x.output(0, 0), -2);
    }

    private static void promise12Functional() {
        TransducerBench x = new TransducerBench();
        CHECK.due("12 no states", x.functional(0), 1);
        Make.oneState(x, 0, 1, 1, 2, 3);
        CHECK.due("12 one", x.functional(0), 1);
        x.arc(0, 0, 2, 0, 3);
        CHECK.due("12 two outputs", x.functional(0), 0);
        CHECK.due("12 witness", View.witness(x), "2");
        CHECK.due("12 first", View.wrote(x, 0), "21");
        CHECK.due("12 second", View.wrote(x, 1), "31");
        x.ends(0, 0, NONE);
        CHECK.due("12 no way", x.functional(0), 1);
        Make.guess(x, 1);
        CHECK.due("12 guess", x.functional(1), 1);
        x.arc(1, 1, 2, 2, 0);
        CHECK.due("12 guess fails", x.functional(1), 0);
        CHECK.due("12 least", View.witness(x), "12");
        x.machine(0, 2);
        x.begins(0, 0, true);
        x.begins(0, 1, true);
        x.ends(0, 0, 5);
        x.ends(0, 1, 4);
        CHECK.due("12 the empty word", x.functional(0), 0);
        CHECK.due("12 no letters", x.witness(0), NONE);
        CHECK.due("12 least first", View.wrote(x, 0) + "," + View.wrote(x, 1), "4,5");
        CHECK.due("12 no machine", x.functional(2), NONE);
        CHECK.due("12 no machine below", x.functional(-1), NONE);
    }

    /** Ways that write one and the same, but the one long ahead of the other. */
    private static void promise12LongDelays() {
        TransducerBench x = new TransducerBench();
        x.machine(0, 6);
        x.begins(0, 0, true);
        for (int q = 0; q < 2; q++) {
            x.arc(0, q, 1, q + 1, 111);
            x.arc(0, q == 0 ? 0 : q + 2, 1, q + 3, 0);
        }
        x.arc(0, 2, 2, 5, 0);
        x.arc(0, 4, 2, 5, 111);
        x.ends(0, 5, 0);
        CHECK.due("12 three are missing", x.functional(0), 0);
        CHECK.due("12 where", View.witness(x), "112");
        CHECK.due("12 what", View.wrote(x, 0) + "," + View.wrote(x, 1), "111,111111");
    }

    private static void promise13Readers() {
        TransducerBench x = new TransducerBench();
        Make.oneState(x, 0, 1, 1, 2, 3);
        Make.oneState(x, 1, 5, 4, 4, 4);
        CHECK.due("13 same readers", x.readers(), 1);
        CHECK.due("13 no witness", x.witness(0), -2);
        x.machine(1, 2);
        x.begins(1, 0, true);
        x.ends(1, 0, 5);
        x.arc(1, 0, 1, 0, 4);
        x.arc(1, 0, 2, 1, 4);
        x.ends(1, 1, 6);
        CHECK.due("13 others", x.readers(), 0);
        CHECK.due("13 the least", View.witness(x), "3");
        CHECK.due("13 of 0", View.wrote(x, 0), "31");
        CHECK.due("13 of 1", View.wrote(x, 1), "none");
        x.machine(0, 1);
        x.begins(0, 0, true);
        x.arc(0, 0, 3, 0, 3);
        x.ends(1, 0, NONE);
        x.arc(1, 0, 2, 1, 3);
        CHECK.due("13 one way round", x.readers(), 0);
        CHECK.due("13 its witness", View.witness(x), "2");
        CHECK.due("13 of 0 then", View.wrote(x, 0), "none");
        CHECK.due("13 of 1 then the least", View.wrote(x, 1), "36");
    }

    private static void promise14Same() {
        TransducerBench x = new TransducerBench();
        Make.oneState(x, 0, 0, 12, 1);
        x.machine(1, 2);
        x.begins(1, 0, true);
        x.ends(1, 0, 0);
        x.ends(1, 1, 2);
        x.arc(1, 0, 1, 1, 1);
        x.arc(1, 1, 1, 1, 21);
        x.arc(1, 0, 2, 0, 1);
        x.arc(1, 1, 2, 0, 21);
        CHECK.due("14 same", x.same(), 1);
        x.arc(1, 1, 3, 1, 1);
        CHECK.due("14 not", x.same(), 0);
        CHECK.due("14 the least", View.witness(x), "13");
        CHECK.due("14 none", View.wrote(x, 0), "none");
        CHECK.due("14 of 1", View.wrote(x, 1), "112");
        x.ends(0, 0, 1);
        CHECK.due("14 other outputs first", x.same(), 0);
        CHECK.due("14 the empty word", View.witness(x), "");
        CHECK.due("14 of both", View.wrote(x, 0) + "," + View.wrote(x, 1), "1,");
        x.arc(1, 0, 2, 0, 2);
        CHECK.due("14 one is not functional", x.same(), NONE);
        CHECK.due("14 it shows", View.witness(x), "2");
        CHECK.due("14 its outputs", View.wrote(x, 0) + "," + View.wrote(x, 1), "1,2");
        x.arc(0, 0, 1, 0, 3);
        CHECK.due("14 neither is", x.same(), NONE);
        CHECK.due("14 0 is asked first", View.witness(x), "1");
        CHECK.due("14 its two", View.wrote(x, 0) + "," + View.wrote(x, 1), "31,121");
    }

    private static void promise15Sequential() {
        TransducerBench x = new TransducerBench();
        CHECK.due("15 no machine", x.sequential(2), NONE);
        CHECK.due("15 no machine below", x.sequential(-1), NONE);
        CHECK.due("15 no states", x.sequential(0), 1);
        dueTold(x, 0, 0, 0, 0, 0);
        Make.guess(x, 0);
        CHECK.due("15 guess", x.sequential(0), 0);
        dueTold(x, 11, 4 + 2 * 10 + 1, NONE, NONE, NONE);
        Make.oneState(x, 0, 0, 1);
        x.arc(0, 0, 1, 0, 2);
        CHECK.due("15 not functional", x.sequential(0), NONE);
        CHECK.due("15 witness", View.witness(x), "1");
        CHECK.due("15 none is none", x.told(0), 11);
        Make.oneState(x, 1, 4, 1, 22);
        CHECK.due("15 one state", x.sequential(1), 1);
        dueTold(x, 1, 1, 1, 1, 2);
        x.machine(0, 3);
        x.begins(0, 0, true);
        x.arc(0, 0, 1, 1, 8);
        x.arc(0, 0, 1, 2, 9);
        x.arc(0, 1, 2, 0, 1);
        x.arc(0, 2, 3, 0, 1);
        x.ends(0, 0, 0);
        CHECK.due("15 one letter ahead", x.sequential(0), 1);
        dueTold(x, 2, 5, 2, 2, 3);
        CHECK.due("15 written late", View.writes(x, 0, 1) + "," + View.writes(x, 1, 2) + "," + View.writes(x, 1, 3), ",81,91");
    }

    private static void promise15Untold() {
        TransducerBench x = new TransducerBench();
        Make.tokens(x, 1);
        CHECK.due("15 sets", x.sequential(1), 2);
        CHECK.due("15 sets told", x.told(2), 101);
        CHECK.due("15 twins told", x.told(1), 1 + 5 + 400);
        CHECK.due("15 no least", x.told(3), NONE);
        CHECK.due("15 nothing acts", x.act(3), NONE);
        x.machine(0, 3);
        x.begins(0, 0, true);
        x.begins(0, 1, true);
        for (int letter = 1; letter <= 3; letter++) {
            x.arc(0, 0, letter, 0, letter);
            x.arc(0, 1, letter, 1, letter + 3);
        }
        x.ends(0, 0, 0);
        x.arc(0, 1, 1, 2, 0);
        CHECK.due("15 one part is of no use", x.sequential(0), 1);
        x.machine(0, 4);
        x.begins(0, 0, true);
        x.begins(0, 1, true);
        for (int letter = 1; letter <= 2; letter++) {
            x.arc(0, 0, letter, 2, letter);
            x.arc(0, 1, letter, 3, letter + 3);
            x.arc(0, 2, letter, 0, letter);
            x.arc(0, 3, letter, 1, letter + 3);
        }
        x.ends(0, 0, 0);
        x.ends(0, 3, 0);
        CHECK.due("15 twins", x.sequential(0), 2);
        CHECK.due("15 twins more", x.told(1), 1001);
        CHECK.due("15 no sets", x.told(2), NONE);
        CHECK.due("15 levels", x.told(0), 9);
    }

    private static void promise15Asked24Times() {
        TransducerBench x = new TransducerBench();
        Make.guess(x, 0);
        Make.oneState(x, 1, 0, 1);
        x.arc(1, 0, 1, 0, 2);
        for (int i = 0; i < 23; i++) {
            CHECK.due("15 asked", x.sequential(0), 0);
            CHECK.due("15 none counts not", x.sequential(1), NONE);
        }
        Make.oneState(x, 0, 3, 1, 2);
        CHECK.due("15 the 24th", x.sequential(0), 1);
        Make.oneState(x, 0, 3, 1);
        x.arc(0, 0, 1, 0, 2);
        CHECK.due("15 asked too often", x.sequential(0), -2);
        CHECK.due("15 ahead of functional", View.witness(x), "1");
        CHECK.due("15 its outputs stay", View.wrote(x, 1), "2");
        CHECK.due("15 no machine", x.sequential(2), NONE);
        CHECK.due("15 told stays", x.told(4), 2);
        CHECK.due("15 least stays", x.act(2), 2);
    }

    private static void promise16Witness() {
        TransducerBench x = new TransducerBench();
        CHECK.due("16 without", x.witness(0), -2);
        CHECK.due("16 without, k below", x.witness(-1), -2);
        Make.oneState(x, 0, 0, 1, 2);
        Make.oneState(x, 1, 0, 1, 2, 3);
        x.readers();
        CHECK.due("16 readers", View.witness(x), "3");
        CHECK.due("16 behind its end", x.witness(1), NONE);
        CHECK.due("16 k below", x.witness(-1), NONE);
        CHECK.due("16 far behind", x.witness(Integer.MAX_VALUE), NONE);
        x.functional(0);
        CHECK.due("16 a 1 leaves it", View.witness(x), "3");
        x.ends(1, 0, 4);
        x.same();
        CHECK.due("16 same", View.witness(x), "");
        x.arc(0, 0, 2, 0, 22);
        x.sequential(0);
        CHECK.due("16 sequential", View.witness(x), "2");
        x.arc(1, 0, 1, 0, 22);
        x.functional(1);
        CHECK.due("16 functional", View.witness(x), "1");
        x.machine(1, 0);
        CHECK.due("16 as it was", View.witness(x), "1");
    }

    private static void promise17Wrote() {
        TransducerBench x = new TransducerBench();
        CHECK.due("17 without", x.wrote(0, 0), -2);
        Make.oneState(x, 0, 0, 31);
        x.arc(0, 0, 1, 0, 22);
        x.arc(0, 0, 1, 0, 123);
        x.arc(0, 0, 1, 0, 999);
        x.functional(0);
        CHECK.due("17 the least", View.wrote(x, 0), "22");
        CHECK.due("17 the next one", View.wrote(x, 1), "31");
        CHECK.due("17 behind its end", x.wrote(0, 2), NONE);
        CHECK.due("17 k below", x.wrote(1, -1), NONE);
        CHECK.due("17 no such output", x.wrote(2, 0), -2);
        CHECK.due("17 no such output below", x.wrote(-1, 0), -2);
        Make.oneState(x, 1, 0);
        x.readers();
        CHECK.due("17 of 0", View.wrote(x, 0), "22");
        CHECK.due("17 of 1 none", x.wrote(1, 0), -2);
        CHECK.due("17 of 1 none, k below", x.wrote(1, -1), -2);
        CHECK.due("17 of 1 none, k behind", x.wrote(1, 5), -2);
    }

    private static void promise18Told() {
        TransducerBench x = new TransducerBench();
        for (int what = -1; what <= 5; what++) {
            CHECK.due("18 ahead of any", x.told(what), NONE);
        }
        Make.oneState(x, 0, 0, 1);
        x.arc(0, 0, 1, 0, 2);
        x.sequential(0);
        CHECK.due("18 none counts as none", x.told(0), NONE);
        Make.oneState(x, 0, 0, 1, 2, 3);
        x.sequential(0);
        dueTold(x, 1, 1, 1, 1, 3);
        CHECK.due("18 another what", x.told(5), NONE);
        CHECK.due("18 another what below", x.told(-1), NONE);
        x.machine(0, 2);
        x.begins(0, 0, true);
        x.begins(0, 1, true);
        x.ends(0, 0, 1);
        x.ends(0, 1, 1);
        x.sequential(0);
        dueTold(x, 1, 4, 1, 1, 0);
        x.machine(0, 2);
        x.begins(0, 0, true);
        x.arc(0, 0, 1, 0, 1);
        x.arc(0, 0, 1, 1, 1);
        x.ends(0, 1, 0);
        x.sequential(0);
        dueTold(x, 2, 4, 2, 2, 2);
    }

    private static void promise19Goes() {
        TransducerBench x = new TransducerBench();
        CHECK.due("19 without", x.goes(0, 1), NONE);
        x.machine(0, 6);
        x.begins(0, 5, true);
        x.arc(0, 5, 3, 2, 1);
        x.arc(0, 5, 1, 3, 1);
        x.arc(0, 5, 2, 5, 1);
        x.arc(0, 3, 2, 2, 2);
        x.arc(0, 2, 1, 5, 3);
        x.arc(0, 4, 1, 4, 3);
        x.ends(0, 2, 0);
        CHECK.due("19 sequential", x.sequential(0), 1);
        int[][] due = {{1, 0, 2}, {NONE, 2, NONE}, {0, NONE, NONE}};
        for (int q = 0; q < 3; q++) {
            for (int letter = 1; letter <= 3; letter++) {
                CHECK.due("19 goes " + q + " " + letter, x.goes(q, letter), due[q][letter - 1]);
            }
            CHECK.due("19 no letter", x.goes(q, 0), NONE);
            CHECK.due("19 no letter above", x.goes(q, 4), NONE);
        }
        CHECK.due("19 no state", x.goes(3, 1), NONE);
        CHECK.due("19 no state below", x.goes(-1, 1), NONE);
        x.machine(0, 0);
        CHECK.due("19 as it was", x.goes(0, 3), 2);
        x.sequential(3);
        CHECK.due("19 none changes nothing", x.goes(0, 3), 2);
        Make.guess(x, 0);
        x.sequential(0);
        CHECK.due("19 none then", x.goes(0, 3), NONE);
    }

    private static void promise20Writes() {
        TransducerBench x = new TransducerBench();
        CHECK.due("20 without", x.writes(NONE, 0, 0), -2);
        CHECK.due("20 without a state", x.writes(0, 0, -1), -2);
        x.machine(0, 3);
        x.begins(0, 0, true);
        x.arc(0, 0, 1, 1, 12);
        x.arc(0, 0, 2, 1, 13);
        x.arc(0, 1, 1, 1, 41);
        x.ends(0, 1, 45);
        CHECK.due("20 sequential", x.sequential(0), 1);
        CHECK.due("20 the begin word", View.writes(x, NONE, 0), "1");
        CHECK.due("20 the begin word, whatever the letter", View.writes(x, NONE, 7), "1");
        CHECK.due("20 2 and the 4 that comes anyway", View.writes(x, 0, 1), "24");
        CHECK.due("20 3 and the 4 that comes anyway", View.writes(x, 0, 2), "34");
        CHECK.due("20 the loop turns", View.writes(x, 1, 1), "14");
        CHECK.due("20 the end", View.writes(x, 1, 0), "5");
        CHECK.due("20 no end", x.writes(0, 0, 0), -2);
        CHECK.due("20 no arc", x.writes(0, 3, 0), -2);
        CHECK.due("20 no arc, k below", x.writes(0, 3, -1), -2);
        CHECK.due("20 no letter", x.writes(0, 4, 0), -2);
        CHECK.due("20 no letter below", x.writes(0, -1, 0), -2);
        CHECK.due("20 no state", x.writes(2, 1, 0), -2);
        CHECK.due("20 no state below", x.writes(-2, 1, 0), -2);
        CHECK.due("20 behind its end", x.writes(0, 1, 2), NONE);
        CHECK.due("20 k below", x.writes(0, 1, -1), NONE);
        x.machine(0, 0);
        CHECK.due("20 as it was", View.writes(x, 1, 0), "5");
        x.sequential(0);
        CHECK.due("20 no letters without states", x.writes(NONE, 0, 0), NONE);
        CHECK.due("20 no states", x.writes(0, 0, 0), -2);
    }

    private static void promise21Act() {
        TransducerBench x = new TransducerBench();
        CHECK.due("21 without", x.act(0), NONE);
        Make.guess(x, 0);
        x.sequential(0);
        CHECK.due("21 none unless it was 1", x.act(12), NONE);
        x.machine(0, 2);
        x.begins(0, 0, true);
        x.arc(0, 0, 1, 1, 123);
        x.arc(0, 1, 1, 1, 456);
        x.arc(0, 1, 3, 0, 7);
        x.ends(0, 1, 999);
        x.sequential(0);
        CHECK.due("21 one", x.act(1), 6);
        CHECK.due("21 nine", x.act(111111111), 30);
        CHECK.due("21 back", x.act(131), 10);
        CHECK.due("21 nothing is read so", x.act(0), NONE);
        CHECK.due("21 nor so", x.act(13), NONE);
        CHECK.due("21 nor so at all", x.act(2), NONE);
        int[] bad = {-1, 4, 101, 1111111111, Integer.MIN_VALUE};
        for (int word : bad) {
            CHECK.due("21 no word", x.act(word), NONE);
        }
        x.machine(0, 0);
        CHECK.due("21 as it was", x.act(1), 6);
        x.sequential(0);
        CHECK.due("21 no states", x.act(0), NONE);
        Make.oneState(x, 0, 0);
        x.sequential(0);
        CHECK.due("21 no letters", x.act(0), 0);
    }

    private static void promise22Acted() {
        TransducerBench x = new TransducerBench();
        CHECK.due("22 without", x.acted(0), NONE);
        CHECK.due("22 without, k below", x.acted(-1), NONE);
        Make.oneState(x, 0, 9, 12, 3);
        x.sequential(0);
        CHECK.due("22 act", x.act(121), 6);
        CHECK.due("22 acted", View.acted(x), "123129");
        x.apply(0, 121);
        CHECK.due("22 as applied", View.acted(x), View.output(x, 0));
        CHECK.due("22 behind its end", x.acted(6), NONE);
        CHECK.due("22 k below", x.acted(-1), NONE);
        x.act(3);
        CHECK.due("22 none counts not", View.acted(x), "123129");
        Make.guess(x, 0);
        x.sequential(0);
        CHECK.due("22 as it was", View.acted(x), "123129");
    }
}
