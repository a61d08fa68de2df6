import java.util.ArrayList;
import java.util.List;
import java.util.function.Consumer;
import java.util.function.IntFunction;

/**
 * Tests of boundary cases, each told by the section and the words of the document that it holds, so
 * that the words lead to their test.
 */
final class Edges {
    record Quote(String section, String words) {}

    private final List<Quote> quotes = new ArrayList<>();
    private String now = "";
    private int asked, wrong, refusals;

    void edge(String section, String words, Consumer<Edges> test) {
        now = section + ", \"" + words + "\"";
        quotes.add(new Quote(section, words));
        int before = asked;
        test.accept(this);
        if (asked == before) fault("nothing was asked");
    }

    void is(String what, int got, int due) {
        asked++;
        if (got != due) fault(what + " answered " + got + ", due is " + due);
    }

    /** A call that is refused, in a state: it answers what is due and changes nothing. */
    void refused(String what, Twins.State state, Twins.Call call, int due) {
        refusals++;
        is(what, call.on(Twins.made(state)), due);
        asked++;
        String difference = Twins.difference(state, call, call);
        if (difference != null) fault(what + " was refused, and yet " + difference);
    }

    /** A number that may be low to high: both are taken, and what is beyond them is BAD. */
    void range(String what, Twins.State state, IntFunction<Twins.Call> call, int low, int high) {
        within(what, state, call, low, high);
        beyond(what, state, call, low, high);
    }

    void within(String what, Twins.State state, IntFunction<Twins.Call> call, int... taken) {
        for (int v : taken) {
            int answer = call.apply(v).on(Twins.made(state));
            is(what + " of " + v + " is BAD", answer == StackDepths.BAD ? 1 : 0, 0);
        }
    }

    void beyond(String what, Twins.State state, IntFunction<Twins.Call> call, int low, int high) {
        for (int v : Twins.notWithin(low, high)) {
            refused(what + " of " + v, state, call.apply(v), StackDepths.BAD);
        }
    }

    private void fault(String told) {
        wrong++;
        System.out.println(now + ": " + told);
    }

    List<Quote> quotes() {
        return quotes;
    }

    int end() {
        System.out.println("EdgesTest: " + quotes.size() + " edges, " + asked + " answers, " + refusals
                + " of refused calls, " + wrong + " not as due");
        return wrong;
    }
}
