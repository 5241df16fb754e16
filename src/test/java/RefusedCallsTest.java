import java.util.ArrayList;
import java.util.List;
import java.util.function.ToIntFunction;

/**
 * A refused call leaves every later answer as it was: after each one, an object answers as a twin
 * does that has been joined in the same way and has never been asked wrongly. The same is asked
 * after each call that is answered but joins and parts nothing.
 */
public final class RefusedCallsTest {
    private static final int[] NOT_VERTICES = {-1, 8, Integer.MIN_VALUE, Integer.MAX_VALUE};
    private static final int[] NOT_SETS = {-1, 256, Integer.MIN_VALUE, Integer.MAX_VALUE};
    private static final int[] NOT_COUNTS = {-1, 3, Integer.MIN_VALUE, Integer.MAX_VALUE};
    private static final int CALLS = 512;

    private static int wrong = 0;

    /** A call with its arguments; an answer of true counts 1, and false 0. */
    private record Call(String name, ToIntFunction<CoverKernel> ask) {
    }

    public static void main(String[] args) {
        int[][] graphs = {
            {},
            {0, 7},
            {0, 1, 1, 2, 2, 3, 3, 4, 4, 5, 5, 6, 6, 7, 7, 0},
            {0, 1, 1, 2, 0, 2, 2, 3, 4, 5, 4, 6},
            everyPair(),
        };
        for (int g = 0; g < graphs.length; g++) {
            changesNothing(g, graphs[g], refusedJoins(), 0);
            changesNothing(g, graphs[g], refusedQuestions(), 0);
            changesNothing(g, graphs[g], refusedPairsOfSets(), CoverKernel.NONE);
            allAtOnceChangeNothing(g, graphs[g]);
            questionsChangeNothing(g, graphs[g]);
        }
        System.out.println(wrong == 0 ? "all answers are as due" : wrong + " answers are not as due");
        if (wrong != 0) {
            System.exit(1);
        }
    }

    private static List<Call> refusedJoins() {
        List<Call> calls = new ArrayList<>();
        for (int v = 0; v < 8; v++) {
            addJoin(calls, v, v);
            for (int other : NOT_VERTICES) {
                addJoin(calls, v, other);
                addJoin(calls, other, v);
            }
        }
        for (int a : NOT_VERTICES) {
            for (int b : NOT_VERTICES) {
                addJoin(calls, a, b);
            }
        }
        return calls;
    }

    private static void addJoin(List<Call> calls, int a, int b) {
        String name = "join(" + a + ", " + b + ", ";
        calls.add(new Call(name + "true)", x -> x.join(a, b, true) ? 1 : 0));
        calls.add(new Call(name + "false)", x -> x.join(a, b, false) ? 1 : 0));
    }

    private static List<Call> refusedQuestions() {
        List<Call> calls = new ArrayList<>();
        for (int v : NOT_VERTICES) {
            calls.add(new Call("neighbours(" + v + ")", x -> x.neighbours(v)));
            for (int n = -1; n <= 3; n++) {
                addCanHave(calls, v, n);
            }
        }
        for (int n : NOT_COUNTS) {
            addCanHave(calls, 0, n);
            addCanHave(calls, 7, n);
        }
        for (int set : NOT_SETS) {
            calls.add(new Call("covers(" + set + ")", x -> x.covers(set) ? 1 : 0));
        }
        return calls;
    }

    private static List<Call> refusedPairsOfSets() {
        List<Call> calls = new ArrayList<>();
        for (int set : NOT_SETS) {
            addLeastWith(calls, set, 0);
            addLeastWith(calls, 0, set);
            addLeastWith(calls, set, set);
        }
        addLeastWith(calls, 1, 1);
        addLeastWith(calls, 255, 255);
        return calls;
    }

    private static void addCanHave(List<Call> calls, int v, int n) {
        calls.add(new Call("canHave(" + v + ", " + n + ")", x -> x.canHave(v, n) ? 1 : 0));
    }

    private static void addLeastWith(List<Call> calls, int in, int out) {
        calls.add(new Call("leastWith(" + in + ", " + out + ")", x -> x.leastWith(in, out)));
    }

    private static void changesNothing(int g, int[] ends, List<Call> calls, int refusal) {
        List<Integer> want = answers(graph(ends));
        for (Call call : calls) {
            CoverKernel x = graph(ends);
            due("graph " + g + ": " + call.name, call.ask.applyAsInt(x), refusal);
            same("graph " + g + ": after " + call.name, answers(x), want);
        }
    }

    /** As many refused calls on one object as leave room for asking for all the answers. */
    private static void allAtOnceChangeNothing(int g, int[] ends) {
        List<Integer> want = answers(graph(ends));
        List<Call> calls = refusedJoins();
        CoverKernel x = graph(ends);
        int room = CALLS - ends.length / 2 - want.size();
        for (int i = 0; i < room && i < calls.size(); i++) {
            due("graph " + g + ": " + calls.get(i).name, calls.get(i).ask.applyAsInt(x), 0);
        }
        same("graph " + g + ": after many refused joins", answers(x), want);
    }

    private static void questionsChangeNothing(int g, int[] ends) {
        List<Call> questions = questions();
        List<Integer> want = answers(graph(ends));
        for (Call question : questions) {
            CoverKernel x = graph(ends);
            question.ask.applyAsInt(x);
            same("graph " + g + ": after " + question.name, answers(x), want);
        }
    }

    private static List<Integer> answers(CoverKernel x) {
        List<Integer> all = new ArrayList<>();
        for (Call question : questions()) {
            all.add(question.ask.applyAsInt(x));
        }
        return all;
    }

    private static void same(String after, List<Integer> got, List<Integer> want) {
        List<Call> questions = questions();
        for (int i = 0; i < questions.size(); i++) {
            due(after + ", " + questions.get(i).name, got.get(i), want.get(i));
        }
    }

    /** Every right question but leastWith of every pair of sets, of which there are some. */
    private static List<Call> questions() {
        List<Call> calls = new ArrayList<>();
        calls.add(new Call("edges()", x -> x.edges()));
        calls.add(new Call("least()", x -> x.least()));
        calls.add(new Call("leastCover()", x -> x.leastCover()));
        calls.add(new Call("always()", x -> x.always()));
        calls.add(new Call("never()", x -> x.never()));
        calls.add(new Call("halves()", x -> x.halves()));
        calls.add(new Call("whole()", x -> x.whole()));
        calls.add(new Call("bare()", x -> x.bare()));
        calls.add(new Call("matching()", x -> x.matching()));
        calls.add(new Call("evenly()", x -> x.evenly() ? 1 : 0));
        calls.add(new Call("tightCovers()", x -> x.tightCovers()));
        for (int i = 0; i < 8; i++) {
            int v = i;
            calls.add(new Call("neighbours(" + v + ")", x -> x.neighbours(v)));
            addCanHave(calls, v, 0);
            addCanHave(calls, v, 1);
            addCanHave(calls, v, 2);
            addLeastWith(calls, 1 << v, 0);
            addLeastWith(calls, 0, 1 << v);
        }
        for (int i = 0; i < 256; i++) {
            int set = i;
            calls.add(new Call("covers(" + set + ")", x -> x.covers(set) ? 1 : 0));
        }
        return calls;
    }

    private static CoverKernel graph(int[] ends) {
        CoverKernel x = new CoverKernel();
        for (int i = 0; i < ends.length; i += 2) {
            x.join(ends[i], ends[i + 1], true);
        }
        return x;
    }

    private static int[] everyPair() {
        int[] ends = new int[56];
        int place = 0;
        for (int a = 0; a < 8; a++) {
            for (int b = 0; b < a; b++) {
                ends[place] = a;
                ends[place + 1] = b;
                place += 2;
            }
        }
        return ends;
    }

    private static void due(String call, int got, int want) {
        if (got != want) {
            wrong++;
            System.out.println(call + " answered " + got + ", due is " + want);
        }
    }
}
