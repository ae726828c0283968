/** Each sentence of part III of the document's "Terms" that names a boundary case: TWINS, SETS, the LEAST machine. */
final class SequentialTermsTest {
    private static final Check CHECK = new Check();

    public static void main(String[] args) {
        delays();
        usefulAlone();
        levelZero();
        ledOnce();
        lettersBehindWhatWasLeft();
        eachLetterEachArc();
        wholeLevels();
        delaysOfTheBound();
        longestWordAndStates();
        thousandPairs();
        noNewOne();
        noUsefulStates();
        firstSet();
        setsByALetter();
        commonBeginnings();
        hundredSets();
        toldApart();
        writtenEarly();
        leadingToNoEnd();
        orderOfStates();
        noWord();
        oneBehindTheOther();
        CHECK.finish("SequentialTermsTest");
    }

    /** What a sequential() of a new object answers of one machine, in Make's notation, and tells then. */
    private static TransducerBench due(String call, int states, String machine, int answer, String told) {
        TransducerBench x = new TransducerBench();
        Make.machine(x, 1, states, machine);
        CHECK.due(call + ": sequential()", x.sequential(1), answer);
        CHECK.due(call + ": told()", View.told(x), told);
        return x;
    }

    private static void dueLeast(String call, int states, String machine, String least) {
        TransducerBench x = new TransducerBench();
        Make.machine(x, 0, states, machine);
        CHECK.due(call + ": sequential()", x.sequential(0), 1);
        CHECK.due(call + ": the LEAST machine", View.least(x), least);
    }

    /** Two WORDS are written by 1 on the ways to STATES 1 and 2, two others by 2. */
    private static String twoWays(String u, String v, String otherU, String otherV) {
        return ">0 3/ 1-1:-3 2-2:-3 0-1:" + u + "-1 0-1:" + v + "-2 0-2:" + otherU + "-1 0-2:" + otherV + "-2";
    }

    private static void delays() {
        CHECK.sentence("DELAY of two WORDS u, v: what is left of both as long as they begin alike");
        String[][] alike = {{"12", "13", "2", "3"}, {"11", "1", "1", ""}, {"1", "11", "", "1"}, {"123", "124", "113",
                "114"},
            {"112", "122", "12", "22"}, {"912", "92", "12", "2"}};
        for (String[] w : alike) {
            due("one DELAY of " + String.join(" ", w), 4, twoWays(w[0], w[1], w[2], w[3]), 1, "3 6 3 3 4");
        }
        String[][] none = {{"123", "123", "", ""}, {"1", "1", "2", "2"}, {"", "", "9", "9"}};
        for (String[] w : none) {
            due("nothing is left of " + String.join(" ", w), 4, twoWays(w[0], w[1], w[2], w[3]), 1, "3 6 3 3 4");
        }
        String[][] unlike = {{"2", "3", "3", "2"}, {"11", "1", "11", "11"}, {"12", "21", "1", "2"}, {"12", "32", "1",
                "3"},
            {"1", "", "11", ""}, {"", "1", "1", ""}, {"1", "2", "1", "3"}, {"12", "13", "12", "14"}, {"12", "2", "13",
                    "2"}};
        for (String[] w : unlike) {
            due("two DELAYS of " + String.join(" ", w), 4, twoWays(w[0], w[1], w[2], w[3]), 1, "3 8 4 4 6");
        }
    }

    private static void usefulAlone() {
        CHECK.sentence("TWINS: of a FUNCTIONAL machine, of its USEFUL STATES alone");
        due("a BEGINNING one without a way out", 3, ">0 0/ 0-1:-0 >1 1-1:1-1 1-2:-2", 1, "1 1 1 1 1");
        due("one that is led to, without a way out", 2, ">0 0/ 0-1:-0 0-1:1-1 1-1:1-1", 1, "1 1 1 1 1");
        due("one with an END, without a way in", 2, ">0 0/ 0-1:-0 1/7 1-1:1-1 1-1:2-0", 1, "1 1 1 1 1");
        due("with a way out, they are", 2, ">0 >1 0/ 0-1:-0 1-1:1-1 1-2:-0", 0, "6 14 -1 -1 -1");
    }

    private static void levelZero() {
        CHECK.sentence("level 0: pairs (p, q) of BEGINNING ones with the DELAY of two empty WORDS");
        StringBuilder all = new StringBuilder();
        for (int n = 1; n <= 6; n++) {
            all.append(" >").append(n - 1).append(' ').append(n - 1).append("/12");
            due(n + " BEGINNING", n, all.toString(), 1, "1 " + n * n + " 1 1 0");
            if (n < 6) {
                due(n + " BEGINNING, one more is not USEFUL", n + 1, all + " >" + n, 1, "1 " + n * n + " 1 1 0");
                due(n + " BEGINNING, one more is not", n + 1, all + " " + n + "/12", 1, "1 " + n * n + " 1 1 0");
            }
        }
    }

    private static void ledOnce() {
        CHECK.sentence("of each pair at level k that was at no level ahead with that DELAY");
        TransducerBench x = due("back without a DELAY", 4, ">0 >2 0/ 0-1:1-1 1-1:2-0 2-1:12-3 3-1:-2 2-2:-0", 1,
                "2 8 4 4 5");
        CHECK.due("the LEAST machine", View.least(x), " 0/ 0-1:12-1 0-2:-2 1-1:-0 2/ 2-1:12-3 3-1:-2");
        due("back with another one", 4, ">0 >2 0/ 0-1:1-1 1-1:2-0 2-1:12-3 3-1:1-2 2-2:-0", 0, "25 54 -1 -1 -1");
    }

    private static void lettersBehindWhatWasLeft() {
        CHECK.sentence("with the DELAY of what was left and the ARCS' WORDS behind it");
        due("2 and 1 behind it, and 21", 4, ">0 >2 0/ 0-1:1-1 1-1:21-0 2-1:12-3 3-1:1-2 2-2:-0", 1, "2 8 4 4 5");
        due("2 and 1 behind it, and 12", 4, ">0 >2 0/ 0-1:1-1 1-1:12-0 2-1:12-3 3-1:1-2 2-2:-0", 0, "24 52 -1 -1 -1");
        CHECK.sentence("with what is left of theirs and the ARC's WORD behind");
        TransducerBench x = due("once more", 4, ">0 >2 0/ 0-1:1-1 1-1:21-0 2-1:12-3 3-1:1-2 2-2:-0", 1, "2 8 4 4 5");
        CHECK.due("the LEAST machine", View.least(x), " 0/ 0-1:121-1 0-2:-2 1-1:-0 2/ 2-1:121-3 3-1:-2");
    }

    private static void eachLetterEachArc() {
        CHECK.sentence("and each letter, each ARC from p and from q by it");
        due("by one letter", 4, ">0 0-1:-1 0-1:-2 0-1:-3 1/ 2/ 3/", 1, "2 10 2 2 1");
        due("by three letters", 4, ">0 0-1:-1 0-2:-2 0-3:-3 1/ 2/ 3/", 1, "2 4 4 2 3");
        due("by one letter, with DELAYS", 4, ">0 0-1:1-1 0-1:-2 0-1:12-3 1/2 2/12 3/", 1, "2 10 2 2 1");
    }

    private static void wholeLevels() {
        CHECK.sentence("(All of a level is made ahead of what follows.)");
        due("the second one that is too long", 2, ">0 >1 0/ 0-1:1-0 1-1:-1 1-2:-0", 0, "6 14 -1 -1 -1");
        due("more than a thousand, and then one too long", 6,
                ">1 >2 >3 >4 2/2 2-1:2-3 5-3:111-2 4-2:2-0 5-3:1-4 3-1:1-2"
                + " 3-2:-1 2-2:1-5 5-3:1-5 0-2:111-2 1-1:-0 4-1:12-4", 0, "56 1001 -1 -1 -1");
    }

    private static void delaysOfTheBound() {
        CHECK.sentence("If at a level a DELAY has a side of more than L * n * n letters");
        due("5 of 4", 2, ">0 >1 0/ 0-1:1-0 1-1:-1 1-2:-0", 0, "6 14 -1 -1 -1");
        due("5 and 5 of 4", 2, ">0 >1 0/ 0-1:1-0 1-1:2-1 1-2:-0", 0, "6 14 -1 -1 -1");
        due("8 of 8, then 10", 2, ">0 >1 0/ 0-1:11-0 1-1:-1 1-2:-0", 0, "6 14 -1 -1 -1");
        due("8 and 4 of 8, then 10 and 5", 2, ">0 >1 0/ 0-1:11-0 1-1:2-1 1-2:-0", 0, "6 14 -1 -1 -1");
        due("12 of 12, then 15", 2, ">0 >1 0/ 0-1:111-0 1-1:-1 1-2:-0", 0, "6 14 -1 -1 -1");
        due("10 of 9", 3, ">0 >1 2/ 0-1:1-0 1-1:-1 0-2:-2 1-3:-2", 0, "11 25 -1 -1 -1");
        String six = ">0 >1 5/ 0-2:-2 1-3:-2 2-1:-3 3-1:-4 4-1:-5 ";
        due("37 of 36", 6, six + "0-1:1-0 1-1:-1", 0, "38 82 -1 -1 -1");
        due("108 of 108, then 111", 6, six + "0-1:111-0 1-1:-1", 0, "38 82 -1 -1 -1");
        due("0 of 0", 6, six + "0-1:-0 1-1:-1", 1, "5 8 5 5 6");
        due("less than the bound, and no more", 3, ">0 0/ 0-1:111-1 0-1:222-2 1-2:-0 2-3:-0", 1, "2 5 2 2 3");
    }

    private static void longestWordAndStates() {
        CHECK.sentence("(L the longest WORD of its ARCS between USEFUL STATES, n how many these are)");
        String grow = ">0 >1 0/ 0-1:1-0 1-1:-1 ";
        due("L 1", 2, grow + "1-2:9-0", 0, "6 14 -1 -1 -1");
        due("L 2", 2, grow + "1-2:99-0", 0, "10 22 -1 -1 -1");
        due("L 3", 2, grow + "1-2:999-0", 0, "14 30 -1 -1 -1");
        due("an ARC to a STATE that is not USEFUL", 3, grow + "1-2:9-0 0-1:999-2", 0, "6 14 -1 -1 -1");
        due("an ARC from a STATE that is not USEFUL", 3, grow + "1-2:9-0 2-1:999-0", 0, "6 14 -1 -1 -1");
        due("an END is no ARC", 2, grow + "1-2:9-0 0/999", 0, "6 14 -1 -1 -1");
        due("STATES that are not USEFUL", 6, grow + "1-2:9-0 >5 4/ 4-1:-0", 0, "6 14 -1 -1 -1");
        due("one STATE more", 3, grow + "1-2:9-0 0-3:-2 2/", 0, "11 25 -1 -1 -1");
    }

    private static void thousandPairs() {
        CHECK.sentence("if pairs with DELAYS, each once, are more than 1000 by then: UNTOLD (2)");
        due("1000 in all", 6,
                ">0 >2 >3 >4 >5 5/ 0-3:21-3 3-3:-1 0-2:-4 3-2:2-3 2-3:1-0 0-1:21-0 2-1:111-3 2-2:211-0 1-1:111-4"
                + " 5-3:112-4 1-1:21-2 1-1:1-3 1-1:1-5 5-1:2-2 1-3:211-4 4-2:11-1 2-1:222-4", 2, "11 1000 101 -1 -1");
        due("1000 at level 30, more at the next one", 4,
                ">0 >1 0/ 0-2:1-2 2-2:-0 1-2:2-0 0-1:2-3 1-1:21-2 3-1:-0 0-2:1-3", 2,
                "32 1001 -1 -1 -1");
        due("1001 at level 12", 3, ">0 >1 >2 0/ 0-3:-1 1-2:12-0 0-3:-2 0-2:1-1 2-2:2-2 2-3:-0", 2, "13 1001 -1 -1 -1");
        due("1001 at level 97, where one is too long", 5,
                ">2 >3 3/ 0-3:-2 1-2:1-0 0-2:1-3 0-1:1-4 4-1:1-1 4-3:1-0 3-2:-4"
                + " 0-1:-0 2-3:-1 4-1:1-2 1-3:1-3", 0, "98 1001 -1 -1 -1");
    }

    private static void noNewOne() {
        CHECK.sentence("When a level brings no new one: it is SEQUENTIAL.");
        due("one level", 1, ">0 0/ 0-1:1-0 0-2:12-0 0-3:-0", 1, "1 1 1 1 3");
        due("two levels", 2, ">0 1/ 0-1:1-1 1-2:12-0", 1, "2 2 2 2 2");
        due("six levels", 6, ">0 5/ 0-1:-1 1-1:-2 2-1:-3 3-1:-4 4-1:-5 5-1:-0", 1, "6 6 6 6 6");
    }

    private static void noUsefulStates() {
        CHECK.sentence("(Without USEFUL STATES there is no level.)");
        due("no STATES", 0, "", 1, "0 0 0 0 0");
        due("none BEGINNING", 2, "0/ 0-1:1-0 0-1:2-1", 1, "0 0 0 0 0");
        due("no END", 2, ">0 >1 0-1:1-0 1-1:2-0", 1, "0 0 0 0 0");
        due("no way", 6, ">0 5/ 0-1:-1 1-1:-2 2-1:-3 4-1:-5", 1, "0 0 0 0 0");
        due("one", 6, ">5 5/", 1, "1 1 1 1 0");
    }

    private static void firstSet() {
        CHECK.sentence("the first one of all BEGINNING USEFUL STATES with the empty WORD (without one there are no SETS)");
        due("without one", 1, ">0", 1, "0 0 0 0 0");
        due("one that is not USEFUL is not in it", 2, ">0 0/ 0-1:-0 >1", 1, "1 1 1 1 1");
        due("all that are USEFUL are in it", 2, ">0 0/ 0-1:-0 >1 1-2:-0", 1, "1 4 2 2 3");
        due("the last STATE alone", 6, ">5 5/ 5-1:12-5", 1, "1 1 1 1 1");
        due("with the empty WORD", 3, ">0 0/5 >1 1/5 >2 2/5", 1, "1 9 1 1 0");
    }

    private static void setsByALetter() {
        CHECK.sentence("all USEFUL STATES that its ARCS lead to (none: there is no SET)");
        due("none", 1, ">0 0/", 1, "1 1 1 1 0");
        due("none by two letters", 1, ">0 0/ 0-3:-0", 1, "1 1 1 1 1");
        due("only one that is not USEFUL", 2, ">0 0/ 0-1:-0 0-2:-1", 1, "1 1 1 1 1");
        due("one that is USEFUL, and one that is not", 2, ">0 0/ 0-1:-0 0-1:-1", 1, "1 1 1 1 1");
        due("two that are USEFUL", 2, ">0 0/ 0-1:-0 0-1:-1 1-2:-0", 1, "2 4 2 2 3");
    }

    private static void commonBeginnings() {
        CHECK.sentence("less the longest beginning that all have in common (which is written)");
        dueLeast("of two", 4, twoWays("12", "13", "2", "3"), " 0-1:1-1 0-2:-1 1-1:2-2 1-2:3-2 2/");
        dueLeast("of two, all of the one", 4, twoWays("12", "1", "", "2"),
                " 0-1:1-1 0-2:-2 1-1:2-3 1-2:-3 2-1:-3 2-2:2-3 3/");
        dueLeast("of two, all", 4, twoWays("12", "12", "31", "31"), " 0-1:12-1 0-2:31-1 1-1:-2 1-2:-2 2/");
        dueLeast("of two, nothing", 4, twoWays("12", "22", "2", "3"),
                " 0-1:-1 0-2:-2 1-1:12-3 1-2:22-3 2-1:2-3 2-2:3-3 3/");
        dueLeast("of three", 5, ">0 4/ 0-1:12-1 0-1:13-2 0-1:1-3 1-1:-4 2-2:-4 3-3:-4",
                "1 0-1:-1 1-1:2-2 1-2:3-2 1-3:-2 2/");
        dueLeast("of the last STATE alone", 6, ">5 5/ 5-1:12-5", " 0/ 0-1:12-0");
        dueLeast("of the last two STATES", 6, ">0 1/ 5-1:-1 4-2:-1 0-1:12-5 0-1:13-4 0-2:3-5",
                " 0-1:1-1 0-2:3-2 1-1:2-3 1-2:3-3 2-1:-3 3/");
        dueLeast("of one", 3, ">0 2/ 0-1:123-1 0-2:4-1 1-1:-2", " 0-1:123-1 0-2:4-1 1-1:-2 2/");
    }

    private static void hundredSets() {
        CHECK.sentence("Where more than 100 SETS would be there: UNTOLD.");
        due("100", 6,
                ">5 0/ 5-3:1-0 5-3:2-1 5-3:3-2 5-3:4-3 5-3:5-4 0-1:-4 1-1:-1 2-1:-3 3-1:-2 4-1:-0 0-2:-2 1-2:-0 2-2:-1"
                + " 4-2:-3 0-3:-0 1-3:-1 2-3:-2 3-3:-3 4-3:-4", 1, "8 146 100 100 297");
        due("101", 5, ">4 0/ 4-3:1-0 4-3:2-1 4-3:3-2 4-3:4-3 0-1:-1 1-1:-2 2-1:-3 3-1:-0 0-2:-0 1-2:-3 2-2:-1 3-2:-2"
                + " 1-3:-0 2-3:-2", 2, "6 149 101 -1 -1");
    }

    private static void toldApart() {
        CHECK.sentence("of SETS those that cannot be told apart by what may still be read and written are one STATE");
        String two = ">0 0/ 3/ 0-1:-1 0-2:-2 ";
        dueLeast("alike", 4, two + "1-3:5-3 2-3:5-3", " 0/ 0-1:5-1 0-2:5-1 1-3:-2 2/");
        dueLeast("alike but for where it is written", 4, ">0 0/ 3/ 0-1:5-1 0-2:-2 1-3:-3 2-3:5-3",
                " 0/ 0-1:5-1 0-2:5-1 1-3:-2 2/");
        dueLeast("an END", 4, two + "1/5 1-3:5-3 2-3:5-3", " 0/ 0-1:5-1 0-2:5-2 1/ 1-3:-3 2-3:-3 3/");
        dueLeast("an ARC", 4, two + "1-3:5-3 2-2:5-3 2-3:5-3", " 0/ 0-1:5-1 0-2:5-2 1-3:-3 2-2:-3 2-3:-3 3/");
        dueLeast("its letter", 4, two + "1-3:5-3 2-2:5-3", " 0/ 0-1:5-1 0-2:5-2 1-3:-3 2-2:-3 3/");
        dueLeast("its WORD", 4, two + "1/ 2/ 1-3:5-3 2-3:4-3", " 0/ 0-1:-1 0-2:-2 1/ 1-3:5-3 2/ 2-3:4-3 3/");
        dueLeast("the END's WORD", 4, two + "1/6 2/7 1-3:5-3 2-3:5-3", " 0/ 0-1:-1 0-2:-2 1/6 1-3:5-3 2/7 2-3:5-3 3/");
        dueLeast("far behind", 6, ">0 0-1:-1 0-2:-2 1-1:-3 2-1:-4 3-1:-5 4-2:-5 5/",
                " 0-1:-1 0-2:-2 1-1:-3 2-1:-4 3-1:-5 4-2:-5 5/");
        dueLeast("nothing far behind", 6, ">0 0-1:-1 0-2:-2 1-1:-3 2-1:-4 3-1:-5 4-1:-5 5/",
                " 0-1:-1 0-2:-1 1-1:-2 2-1:-3 3/");
        dueLeast("all are one", 6, ">0 0/ 1/ 2/ 3/ 4/ 5/ 0-1:-1 1-1:-2 2-1:-3 3-1:-4 4-1:-5 5-1:-0", " 0/ 0-1:-0");
    }

    private static void writtenEarly() {
        CHECK.sentence("all is written as early as it can be: a BEGIN WORD, then at each letter, then at the END");
        dueLeast("all in the BEGIN WORD", 3, ">0 0-1:12-1 1-2:34-2 2/56", "123456 0-1:-1 1-2:-2 2/");
        dueLeast("all at the first letter", 3, ">0 0/ 0-1:12-1 1-2:34-2 2/56", " 0/ 0-1:123456-1 1-2:-2 2/");
        dueLeast("all at the END", 1, ">0 0/56 0-1:7-0", " 0/56 0-1:7-0");
        dueLeast("some of each", 3, ">0 0-1:-1 1/12 1-2:-2 2/13", "1 0-1:-1 1/2 1-2:3-2 2/");
        dueLeast("a loop is turned", 2, ">0 0-1:12-1 0-2:13-1 1-1:41-1 1/45", "1 0-1:24-1 0-2:34-1 1/5 1-1:14-1");
        dueLeast("the END turns into the BEGIN WORD", 1, ">0 0/1 0-1:12-0", "1 0/ 0-1:21-0");
        dueLeast("none of an END without letters", 1, ">0 0/ 0-1:12-0", " 0/ 0-1:12-0");
    }

    private static void leadingToNoEnd() {
        CHECK.sentence("STATES that lead to no END are none");
        dueLeast("one is left", 4, ">0 0/ 0-1:1-1 1-2:2-2 2-3:3-1 >3 3-1:4-3", " 0/");
        dueLeast("two are left", 3, ">0 0-2:-1 0-1:5-2 1-1:-1 2/", "5 0-1:-1 1/");
        dueLeast("all are left", 3, ">0 0-2:-1 0-1:5-2 1-1:-2 2/", " 0-1:5-1 0-2:-2 1/ 2-1:-1");
    }

    private static void orderOfStates() {
        CHECK.sentence("of the others 0 is the first one, then by the order in which they are come to (STATE by STATE, letter by letter).");
        dueLeast("STATE by STATE, letter by letter", 6,
                "5/1 3/2 1/3 4/4 0/4 2/4 4-1:7-4 0-2:7-0 2-3:7-2 1-3:-2 1-1:-0 3-1:-4"
                + " 5-2:-1 5-1:-3 >5",
                " 0/1 0-1:-1 0-2:-2 1/2 1-1:-3 2/3 2-1:-4 2-3:-5 3/4 3-1:7-3 4/4 4-2:7-4 5/4 5-3:7-5");
    }

    /** What is told of a machine is the same whatever was asked ahead of it. */
    private static void oneBehindTheOther() {
        CHECK.sentence("Then SETS are made");
        String[] machines = {twoWays("12", "1", "", "2"), ">0 0/ 0-1:1-1 0-3:5-3 1/4 3/ 3-1:6-0", ">1 >2 1/5 2/5 1-1:-2",
            ">0 0-1:12-1 1-2:34-2 2/56", ">0 >1 >2 >3 0/ 1/ 2/ 3/", ">0 3/ 1-1:-3 2-2:-3 0-1:123-1 0-1:12-2 1-2:7-0", "",
            ">0 >1 0/ 0-1:1-0 1-1:-1 1-2:-0", ">3 3/ 3-2:-1 1-2:-2 2-2:-3", ">0 0-1:1-1 0-1:-2 1/222 2-2:3-3 3/",
            ">0 >2 0/ 0-1:1-1 1-1:21-0 2-1:12-3 3-1:1-2 2-2:-0"};
        TransducerBench again = due("other WORDS by 3", 4, ">0 3/ 0-1:-1 0-2:-2 1-1:-3 1-3:5-3 2-1:-3 2-3:6-3", 1, "3 4 4 4 6");
        Make.machine(again, 0, 4, ">0 3/ 0-1:-1 0-2:-2 1-1:-3 2-1:-3");
        CHECK.due("sequential() of no WORDS by 3", again.sequential(0), 1);
        CHECK.due("they are one", View.least(again), " 0-1:-1 0-2:-1 1-1:-2 2/");
        for (int step = 1; step <= 4; step++) {
            TransducerBench x = new TransducerBench();
            for (int i = 0; i < machines.length; i++) {
                String machine = machines[(i * step + 3) % machines.length];
                TransducerBench alone = new TransducerBench();
                Make.machine(alone, 0, 4, machine);
                Make.machine(x, i % 2, 4, machine);
                CHECK.due("sequential() of one more", x.sequential(i % 2), alone.sequential(0));
                CHECK.due("told()", View.told(x), View.told(alone));
                CHECK.due("the LEAST machine", View.least(x), View.least(alone));
            }
        }
    }

    private static void noWord() {
        CHECK.sentence("A machine without any WORD has no STATES.");
        String[] machines = {"", "0/ 0-1:1-0", ">0 0-1:1-0", ">0 1/", ">0 1/ 1-1:-0"};
        for (String machine : machines) {
            TransducerBench x = due("none", 2, machine, 1, "0 0 0 0 0");
            CHECK.due("goes()", x.goes(0, 1), TransducerBench.NONE);
            CHECK.due("the BEGIN WORD", x.writes(TransducerBench.NONE, 0, 0), TransducerBench.NONE);
            CHECK.due("an END", x.writes(0, 0, 0), -2);
            CHECK.due("act()", x.act(0), TransducerBench.NONE);
            CHECK.due("take()", x.take(1), true);
            CHECK.due("STATES", x.size(1, 0), 0);
        }
        dueLeast("the empty WORD is one", 1, ">0 0/", " 0/");
    }
}
