import java.util.ArrayList;
import java.util.List;

/**
 * The document's language a second time, built in another way than the class under test: a tree
 * from a recursive-descent parser, and a walk over it that unwinds by Java's own exceptions.
 */
final class Model {
    private static final class Stmt {
        int kind;
        int arg;
        List<Stmt> body;
        List<Clause> clauses;
        List<Stmt> last;
    }

    private static final class Clause {
        int type;
        List<Stmt> body;
    }

    /** The parser stops here: at a token that doesn't fit, or at the end of the tokens. */
    private static final class Stop extends RuntimeException {
        private static final long serialVersionUID = 1L;

        Stop() {
            super(null, null, false, false);
        }
    }

    private static final class Uncaught extends RuntimeException {
        private static final long serialVersionUID = 1L;
        final int type;

        Uncaught(int type) {
            super(null, null, false, false);
            this.type = type;
        }
    }

    /** Control on its way to a clause of the try statement whose body the target stands for. */
    private static final class Unwinding extends RuntimeException {
        private static final long serialVersionUID = 1L;
        final transient Object target;
        final transient Clause clause;
        final int type;

        Unwinding(Active target, Clause clause, int type) {
            super(null, null, false, false);
            this.target = target;
            this.clause = clause;
            this.type = type;
        }
    }

    private static final class Active {
        final Stmt statement;

        Active(Stmt statement) {
            this.statement = statement;
        }
    }

    private final int[] kinds;
    private final int[] args;
    private final int capacity;
    private int at;
    private int highestCall;
    private final List<List<Stmt>> functions = new ArrayList<>();

    private final List<Active> active = new ArrayList<>();
    int status;
    int acc;
    int type;
    int catches;
    int finallys;
    int abandoned;
    final List<Integer> trace = new ArrayList<>();

    Model(int[] kinds, int[] args, int capacity) {
        this.kinds = kinds;
        this.args = args;
        this.capacity = capacity;
    }

    int functionCount() {
        return functions.size();
    }

    int compile() {
        try {
            do {
                need(1);
                if (functions.size() == 4) {
                    throw new Stop();
                }
                at++;
                functions.add(new ArrayList<>());
                List<Stmt> body = body(functions.size() - 1, 0);
                functions.set(functions.size() - 1, body);
                need(2);
                at++;
            } while (at < kinds.length);
        } catch (Stop stop) {
            return at;
        }
        return highestCall < functions.size() ? -1 : kinds.length;
    }

    private int kindHere() {
        if (at >= kinds.length) {
            throw new Stop();
        }
        return kinds[at];
    }

    private void need(int kind) {
        if (kindHere() != kind) {
            throw new Stop();
        }
    }

    private void needArg(int low, int high) {
        if (args[at] < low || args[at] > high) {
            throw new Stop();
        }
    }

    private List<Stmt> body(int function, int catchDepth) {
        List<Stmt> list = new ArrayList<>();
        while (kindHere() == 3 || kindHere() >= 6) {
            list.add(kindHere() == 3 ? tryStatement(function, catchDepth) : simple(function, catchDepth));
        }
        return list;
    }

    private Stmt simple(int function, int catchDepth) {
        Stmt s = new Stmt();
        s.kind = kinds[at];
        s.arg = args[at];
        if (s.kind == 8 || s.kind == 9) {
            needArg(1, 15);
        } else if (s.kind == 10 && catchDepth == 0) {
            throw new Stop();
        } else if (s.kind == 11) {
            needArg(function + 1, 3);
            highestCall = Math.max(highestCall, s.arg);
        }
        at++;
        return s;
    }

    private Stmt tryStatement(int function, int catchDepth) {
        Stmt s = new Stmt();
        s.kind = 3;
        s.clauses = new ArrayList<>();
        at++;
        s.body = body(function, catchDepth);
        while (kindHere() == 4) {
            needArg(0, 15);
            Clause clause = new Clause();
            clause.type = args[at];
            at++;
            clause.body = body(function, catchDepth + 1);
            s.clauses.add(clause);
        }
        if (kindHere() == 5) {
            at++;
            s.last = body(function, catchDepth);
        } else if (s.clauses.isEmpty()) {
            throw new Stop();
        }
        need(2);
        at++;
        return s;
    }

    void run(int input) {
        active.clear();
        trace.clear();
        acc = input;
        type = 0;
        catches = 0;
        finallys = 0;
        abandoned = 0;
        status = 1;
        try {
            walk(functions.get(0), 0);
        } catch (Uncaught uncaught) {
            status = 2;
            type = uncaught.type;
        }
    }

    private void walk(List<Stmt> list, int caught) {
        for (Stmt s : list) {
            switch (s.kind) {
                case 3 -> walkTry(s, caught);
                case 6 -> acc += s.arg;
                case 7 -> mark(s.arg);
                case 8 -> raise(s.arg);
                case 9 -> raiseIf(acc != 0, s.arg);
                case 10 -> raise(caught);
                default -> walk(functions.get(s.arg), 0);
            }
        }
    }

    private void mark(int value) {
        if (trace.size() < capacity) {
            trace.add(value);
        }
    }

    private void raiseIf(boolean fires, int thrown) {
        if (fires) {
            raise(thrown);
        }
    }

    private void raise(int thrown) {
        for (int i = active.size() - 1; i >= 0; i--) {
            for (Clause clause : active.get(i).statement.clauses) {
                if (clause.type == 0 || clause.type == thrown) {
                    throw new Unwinding(active.get(i), clause, thrown);
                }
            }
        }
        throw new Uncaught(thrown);
    }

    private void walkTry(Stmt s, int caught) {
        Active mine = new Active(s);
        active.add(mine);
        Unwinding under = attempt(s.body, caught);
        active.remove(active.size() - 1);
        if (under != null && under.target == mine) {
            catches++;
            under = attempt(under.clause.body, under.type);
        }
        if (s.last != null) {
            finallys++;
            // Counted first and taken back, as a throw in the body leaves this method.
            abandoned += under != null ? 1 : 0;
            walk(s.last, caught);
            abandoned -= under != null ? 1 : 0;
        }
        if (under != null) {
            throw under;
        }
    }

    private Unwinding attempt(List<Stmt> list, int caught) {
        int size = active.size();
        try {
            walk(list, caught);
            return null;
        } catch (Unwinding unwinding) {
            while (active.size() > size) {
                active.remove(active.size() - 1);
            }
            return unwinding;
        }
    }
}
