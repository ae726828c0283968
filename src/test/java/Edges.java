import java.util.function.Consumer;
import java.util.function.ToIntFunction;

/** What the tests of boundary cases share: benches to ask, and that a refused call changes nothing. */
final class Edges {
    private final Check check;

    Edges(Check check) {
        this.check = check;
    }

    /** A new object with machine 0 as Make's notation tells it. */
    static TransducerBench bench(int states, String told) {
        TransducerBench x = new TransducerBench();
        Make.machine(x, 0, states, told);
        return x;
    }

    /** As bench(); the LEAST machine is made of it. */
    TransducerBench sequential(int states, String told) {
        TransducerBench x = bench(states, told);
        check.due("sequential()", x.sequential(0), 1);
        return x;
    }

    /** Two machines of which the first isn't FUNCTIONAL; OUTPUTS, a WITNESS, a LEAST machine and what it wrote. */
    static void makeBusy(TransducerBench x) {
        Make.machine(x, 1, 3, ">0 0/5 0-1:12-1 1-2:3-2 2/ 2-1:44-0");
        x.sequential(1);
        x.act(12);
        Make.machine(x, 0, 3, ">0 >2 0/ 1/21 2/ 0-1:1-1 0-2:2-2 0-3:3-0 1-1:-2 0-1:3-1 2-3:-1");
        x.functional(0);
        x.apply(0, 1);
    }

    /** Six STATES and thirty ARCS, and nothing else. */
    static void makeFull(TransducerBench x) {
        Make.full(x, 0);
    }

    /** A bench as it is at first. */
    static void makeNothing(TransducerBench x) {
        x.size(0, 0);
    }

    static int bit(boolean is) {
        return is ? 1 : 0;
    }

    /** A call that changes nothing: neither what can be read nor the machines are any other than without it. */
    void nothingHappens(String call, Consumer<TransducerBench> made, ToIntFunction<TransducerBench> asked, int due) {
        TransducerBench without = new TransducerBench();
        TransducerBench with = new TransducerBench();
        made.accept(without);
        made.accept(with);
        check.due(call, asked.applyAsInt(with), due);
        check.due(call + ", all is as it was", View.everything(with), View.everything(without));
        check.due(call + ", the machines are", View.machines(with), View.machines(without));
    }

    void nothingHappens(String call, ToIntFunction<TransducerBench> asked, int due) {
        nothingHappens(call + " of busy machines", Edges::makeBusy, asked, due);
        nothingHappens(call + " of no machines", Edges::makeNothing, asked, due);
    }
}
