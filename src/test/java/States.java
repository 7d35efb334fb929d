import java.util.ArrayList;
import java.util.List;
import java.util.function.Consumer;
import java.util.function.Function;
import java.util.function.IntUnaryOperator;
import java.util.function.Supplier;

/** Objects in every state that the document tells apart, and all that can be seen of an object. */
final class States {
    /** The capacities are the clamped ones. */
    record State(String name, int maxTokens, int traceCapacity, TwoPhaseUnwind x) {
    }

    /** Indexes that lie outside of the tokens and of the trace of every object. */
    static final int[] OUTSIDE = {Integer.MIN_VALUE, Integer.MIN_VALUE + 1, -65536, -33, -32, -31, -2, -1, 32, 33, 64,
            65536, Integer.MAX_VALUE - 1, Integer.MAX_VALUE};

    private States() {
    }

    /** Makes new objects each time, always in the same order. */
    static List<State> all() {
        List<State> list = cleared();
        list.addAll(afterARun());
        return list;
    }

    /** The states in which the results are cleared, by each call that clears them. */
    static List<State> cleared() {
        List<State> list = new ArrayList<>(notCompiled());
        list.addAll(compiledButNotRun());
        return list;
    }

    static List<State> notCompiled() {
        TwoPhaseUnwind refusedAtToken = Program.of("FUNC RETHROW END");
        refusedAtToken.compile();
        TwoPhaseUnwind refusedAtEnd = Program.of("FUNC CALL:1 TRY CATCH:2");
        refusedAtEnd.compile();
        TwoPhaseUnwind added = Program.ran(Program.BUSY, 1);
        added.addToken(TwoPhaseUnwind.T_MARK, 3);
        TwoPhaseUnwind refusedAfterARun = Program.ran(Program.FOUR, 1);
        refusedAfterARun.addToken(TwoPhaseUnwind.T_MARK, 3);
        refusedAfterARun.compile();
        TwoPhaseUnwind wasReset = Program.ran(Program.BUSY, 1);
        wasReset.reset();
        TwoPhaseUnwind fullOfTries = new TwoPhaseUnwind(32, 5);
        for (int i = 0; i < 32; i++) {
            fullOfTries.addToken(i == 0 ? TwoPhaseUnwind.T_FUNC : TwoPhaseUnwind.T_TRY, i);
        }
        fullOfTries.compile();
        return List.of(
                new State("new", 32, 32, new TwoPhaseUnwind(32, 32)),
                new State("new and smallest", 8, 1, new TwoPhaseUnwind(Integer.MIN_VALUE, Integer.MIN_VALUE)),
                new State("tokens added", 32, 32, Program.of(Program.BUSY)),
                new State("full, not compiled", 9, 1, Program.add(new TwoPhaseUnwind(9, 1), Program.BUSY)),
                new State("refused by compile at a token", 32, 32, refusedAtToken),
                new State("refused by compile at the end", 32, 32, refusedAtEnd),
                new State("full of open tries, refused by compile", 32, 5, fullOfTries),
                new State("a token added after a run", 32, 32, added),
                new State("refused by compile after a run", 32, 32, refusedAfterARun),
                new State("reset after a run", 32, 32, wasReset));
    }

    static List<State> compiledButNotRun() {
        TwoPhaseUnwind full = Program.add(new TwoPhaseUnwind(9, 1), Program.BUSY);
        full.compile();
        TwoPhaseUnwind again = Program.ran(Program.BUSY, 1);
        again.compile();
        return List.of(
                new State("compiled", 32, 32, Program.compiled(Program.BUSY)),
                new State("four functions compiled", 32, 32, Program.compiled(Program.FOUR)),
                new State("full and compiled", 9, 1, full),
                new State("compiled again after a run", 32, 32, again));
    }

    static List<State> afterARun() {
        TwoPhaseUnwind full = Program.add(new TwoPhaseUnwind(9, 1), Program.BUSY);
        full.compile();
        full.run(1);
        TwoPhaseUnwind fullTrace = Program.add(new TwoPhaseUnwind(25, 3), Program.MARKS_60);
        fullTrace.compile();
        fullTrace.run(-5);
        return List.of(
                new State("run to UNCAUGHT", 32, 32, Program.ran(Program.BUSY, 1)),
                new State("run to NORMAL", 32, 32, Program.ran(Program.FOUR, 1)),
                new State("run with the result 0", 32, 32, Program.ran(Program.BUSY, 0)),
                new State("full and run", 9, 1, full),
                new State("run until the trace was full", 25, 3, fullTrace));
    }

    /** Every getter's answer, those with an index also far outside. */
    static String seen(TwoPhaseUnwind x) {
        return tokens(x) + " compiled " + x.isCompiled() + " functions " + x.getFunctionCount() + results(x);
    }

    static String tokens(TwoPhaseUnwind x) {
        return x.getTokenCount() + " tokens," + atEveryIndex(x::getTokenKind) + "," + atEveryIndex(x::getTokenArg);
    }

    static String results(TwoPhaseUnwind x) {
        return " " + Program.outcome(x) + " trace " + x.getTraceLength() + ":" + atEveryIndex(x::getTrace);
    }

    /** Each call for itself, as a getter that had an effect would have it on both of the objects compared. */
    private static final List<Function<TwoPhaseUnwind, String>> VIEWS = List.of(
            x -> "getTokenCount " + x.getTokenCount(),
            x -> "getTokenKind " + atEveryIndex(x::getTokenKind),
            x -> "getTokenArg " + atEveryIndex(x::getTokenArg),
            x -> "isCompiled " + x.isCompiled(),
            x -> "getFunctionCount " + x.getFunctionCount(),
            x -> "getStatus " + x.getStatus(),
            x -> "getResult " + x.getResult(),
            x -> "getUncaughtType " + x.getUncaughtType(),
            x -> "getTraceLength " + x.getTraceLength(),
            x -> "getTrace " + atEveryIndex(x::getTrace),
            x -> "getCatchRuns " + x.getCatchRuns(),
            x -> "getFinallyRuns " + x.getFinallyRuns(),
            x -> "addToken " + x.addToken(TwoPhaseUnwind.T_END, 6) + " " + tokens(x),
            x -> "compile " + x.compile() + " " + x.isCompiled(),
            x -> "run " + x.run(1) + " " + results(x),
            States::future);

    /** After the call, objects in these states answer as others that are made alike and don't get the call. */
    static void dueChangesNothing(Supplier<List<State>> states, Consumer<TwoPhaseUnwind> call) {
        for (Function<TwoPhaseUnwind, String> view : VIEWS) {
            List<State> called = states.get();
            List<State> others = states.get();
            for (int s = 0; s < called.size(); s++) {
                call.accept(called.get(s).x());
                call.accept(called.get(s).x());
                Due.same(called.get(s).name() + ", after the call", view.apply(called.get(s).x()),
                        view.apply(others.get(s).x()));
            }
        }
    }

    static void dueChangesNothing(Consumer<TwoPhaseUnwind> call) {
        dueChangesNothing(States::all, call);
    }

    /** The getter's answers at every index that an object can have, and far outside. */
    static String atEveryIndex(IntUnaryOperator getter) {
        StringBuilder s = new StringBuilder();
        for (int i = 0; i < 34; i++) {
            s.append(' ').append(getter.applyAsInt(i));
        }
        for (int i : OUTSIDE) {
            s.append(' ').append(getter.applyAsInt(i));
        }
        return s.toString();
    }

    /** What the object answers from here on: two objects with one future have no hidden difference. */
    static String future(TwoPhaseUnwind x) {
        StringBuilder s = new StringBuilder(seen(x));
        s.append("\nrun ").append(x.run(1)).append(seen(x));
        s.append("\ncompile ").append(x.compile()).append(seen(x));
        s.append("\nrun ").append(x.run(0)).append(seen(x));
        s.append("\nrun ").append(x.run(-7)).append(seen(x));
        int taken = 0;
        while (taken < 100 && x.addToken(TwoPhaseUnwind.T_MARK, taken)) {
            taken++;
        }
        s.append("\ntaken ").append(taken).append(seen(x));
        s.append("\ncompile ").append(x.compile()).append(seen(x));
        x.reset();
        x.addToken(TwoPhaseUnwind.T_FUNC, 0);
        for (int i = 0; i < 6; i++) {
            x.addToken(TwoPhaseUnwind.T_MARK, i);
        }
        x.addToken(TwoPhaseUnwind.T_END, 0);
        s.append("\ncompile ").append(x.compile()).append(seen(x));
        return s.append("\nrun ").append(x.run(1)).append(seen(x)).toString();
    }
}
