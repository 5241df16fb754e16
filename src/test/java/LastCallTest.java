import java.util.ArrayList;
import java.util.List;
import java.util.function.ToIntFunction;

/**
 * "An object is used for at most 512 calls after it has been made": the 512th call of an object
 * answers as the first would, and so does each call before it.
 */
public final class LastCallTest {
    private static final int CALLS = 512;
    private static final int JOINS = 28;
    private static final List<Call> QUESTIONS = questions();

    private static int wrong = 0;

    /** A call that leaves the graph as it is, and its answers; true counts 1, and false 0. */
    private record Call(String name, ToIntFunction<CoverKernel> ask, int noEdges, int everyEdge) {
        int due(boolean full) {
            return full ? everyEdge : noEdges;
        }
    }

    public static void main(String[] args) {
        for (Call last : QUESTIONS) {
            sameCallAllAlong(last, false);
            sameCallAllAlong(last, true);
            lastAfterAllCalls(last, false);
            lastAfterAllCalls(last, true);
            lastAfterJoinsAlone(last, false);
            lastAfterJoinsAlone(last, true);
        }
        lastCallIsAJoin(0, 7, 1);
        lastCallIsAJoin(7, 0, 1);
        lastCallIsAJoin(0, 0, 0);
        lastCallIsAJoin(7, 7, 0);
        lastCallIsAJoin(-1, 0, 0);
        lastCallIsAJoin(7, 8, 0);
        lastCallIsAJoin(Integer.MIN_VALUE, Integer.MAX_VALUE, 0);
        lastQuestionSeesTheJoinBeforeIt();
        System.out.println(wrong == 0 ? "all answers are as due" : wrong + " answers are not as due");
        if (wrong != 0) {
            System.exit(1);
        }
    }

    private static List<Call> questions() {
        List<Call> calls = new ArrayList<>();
        calls.add(new Call("join(3, 3, true)", x -> x.join(3, 3, true) ? 1 : 0, 0, 0));
        calls.add(new Call("join(8, 0, false)", x -> x.join(8, 0, false) ? 1 : 0, 0, 0));
        calls.add(new Call("neighbours(0)", x -> x.neighbours(0), 0, 254));
        calls.add(new Call("neighbours(7)", x -> x.neighbours(7), 0, 127));
        calls.add(new Call("neighbours(8)", x -> x.neighbours(8), 0, 0));
        calls.add(new Call("edges()", x -> x.edges(), 0, 28));
        calls.add(new Call("covers(0)", x -> x.covers(0) ? 1 : 0, 1, 0));
        calls.add(new Call("covers(63)", x -> x.covers(63) ? 1 : 0, 1, 0));
        calls.add(new Call("covers(254)", x -> x.covers(254) ? 1 : 0, 1, 1));
        calls.add(new Call("covers(256)", x -> x.covers(256) ? 1 : 0, 0, 0));
        calls.add(new Call("least()", x -> x.least(), 0, 7));
        calls.add(new Call("leastCover()", x -> x.leastCover(), 0, 127));
        calls.add(new Call("leastWith(0, 128)", x -> x.leastWith(0, 128), 0, 7));
        calls.add(new Call("leastWith(255, 0)", x -> x.leastWith(255, 0), 8, 8));
        calls.add(new Call("leastWith(0, 3)", x -> x.leastWith(0, 3), 0, -1));
        calls.add(new Call("leastWith(0, 256)", x -> x.leastWith(0, 256), -1, -1));
        calls.add(new Call("always()", x -> x.always(), 0, 0));
        calls.add(new Call("never()", x -> x.never(), 255, 0));
        calls.add(new Call("halves()", x -> x.halves(), 0, 8));
        calls.add(new Call("whole()", x -> x.whole(), 0, 0));
        calls.add(new Call("bare()", x -> x.bare(), 255, 0));
        calls.add(new Call("canHave(0, 0)", x -> x.canHave(0, 0) ? 1 : 0, 1, 0));
        calls.add(new Call("canHave(7, 1)", x -> x.canHave(7, 1) ? 1 : 0, 0, 1));
        calls.add(new Call("canHave(7, 2)", x -> x.canHave(7, 2) ? 1 : 0, 0, 0));
        calls.add(new Call("canHave(7, 3)", x -> x.canHave(7, 3) ? 1 : 0, 0, 0));
        calls.add(new Call("matching()", x -> x.matching(), 0, 4));
        calls.add(new Call("evenly()", x -> x.evenly() ? 1 : 0, 0, 1));
        calls.add(new Call("tightCovers()", x -> x.tightCovers(), 1, 8));
        return calls;
    }

    private static void sameCallAllAlong(Call call, boolean full) {
        CoverKernel x = graph(full);
        for (int number = joins(full) + 1; number <= CALLS; number++) {
            ask(x, number, call, full);
        }
    }

    private static void lastAfterAllCalls(Call last, boolean full) {
        CoverKernel x = graph(full);
        for (int number = joins(full) + 1; number < CALLS; number++) {
            ask(x, number, QUESTIONS.get(number % QUESTIONS.size()), full);
        }
        ask(x, CALLS, last, full);
    }

    private static void lastAfterJoinsAlone(Call last, boolean full) {
        CoverKernel x = graph(full);
        joinAndPart(x, joins(full) + 1, full);
        ask(x, CALLS, last, full);
    }

    private static void lastCallIsAJoin(int a, int b, int want) {
        for (boolean full : new boolean[] {false, true}) {
            for (boolean on : new boolean[] {false, true}) {
                CoverKernel x = graph(full);
                for (int number = joins(full) + 1; number < CALLS; number++) {
                    ask(x, number, QUESTIONS.get(number % QUESTIONS.size()), full);
                }
                String name = "join(" + a + ", " + b + ", " + on + ")";
                due("call 512: " + name, x.join(a, b, on) ? 1 : 0, want);
            }
        }
    }

    private static void lastQuestionSeesTheJoinBeforeIt() {
        CoverKernel joined = new CoverKernel();
        CoverKernel parted = graph(true);
        for (int number = 1; number < CALLS - 1; number++) {
            ask(joined, number, QUESTIONS.get(number % QUESTIONS.size()), false);
        }
        for (int number = JOINS + 1; number < CALLS - 1; number++) {
            ask(parted, number, QUESTIONS.get(number % QUESTIONS.size()), true);
        }
        due("call 511: join(0, 7, true)", joined.join(0, 7, true) ? 1 : 0, 1);
        due("call 511: join(0, 7, false)", parted.join(0, 7, false) ? 1 : 0, 1);
        due("call 512: leastCover() of one edge", joined.leastCover(), 1);
        due("call 512: leastCover() of every edge but one", parted.leastCover(), 126);
    }

    /** From this call to the 511th: every pair in turn is changed and changed back. */
    private static void joinAndPart(CoverKernel x, int from, boolean full) {
        int number = from;
        for (int pair = 0; number + 1 < CALLS; pair++) {
            int a = pair % 8;
            int b = (a + 1 + pair / 8 % 7) % 8;
            due("call " + number + ": join", x.join(a, b, !full) ? 1 : 0, 1);
            due("call " + (number + 1) + ": join back", x.join(b, a, full) ? 1 : 0, 1);
            number += 2;
        }
        if (number < CALLS) {
            due("call " + number + ": join as it was", x.join(0, 7, full) ? 1 : 0, 1);
        }
    }

    private static CoverKernel graph(boolean full) {
        CoverKernel x = new CoverKernel();
        for (int a = 0; full && a < 8; a++) {
            for (int b = 0; b < a; b++) {
                x.join(a, b, true);
            }
        }
        return x;
    }

    /** The calls that graph(full) has made. */
    private static int joins(boolean full) {
        return full ? JOINS : 0;
    }

    private static void ask(CoverKernel x, int number, Call call, boolean full) {
        String name = "call " + number + (full ? ", every edge: " : ", no edges: ") + call.name;
        due(name, call.ask.applyAsInt(x), call.due(full));
    }

    private static void due(String call, int got, int want) {
        if (got != want) {
            wrong++;
            System.out.println(call + " answered " + got + ", due is " + want);
        }
    }
}
