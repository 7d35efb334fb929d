/** Compiles and runs a small block language with typed exceptions and two-phase unwinding. */
public final class TwoPhaseUnwind {
    public static final int T_FUNC = 1;
    public static final int T_END = 2;
    public static final int T_TRY = 3;
    public static final int T_CATCH = 4;
    public static final int T_FINALLY = 5;
    public static final int T_ADD = 6;
    public static final int T_MARK = 7;
    public static final int T_THROW = 8;
    public static final int T_THROWNZ = 9;
    public static final int T_RETHROW = 10;
    public static final int T_CALL = 11;
    public static final int STATUS_NONE = 0;
    public static final int STATUS_NORMAL = 1;
    public static final int STATUS_UNCAUGHT = 2;
    public static final int COMPILE_OK = -1;
    public static final int CATCH_ANY = 0;
    public static final int MAX_TYPE = 15;
    public static final int MAX_FUNCTIONS = 4;

    private static final int MIN_TOKENS = 8;
    private static final int MAX_TOKENS = 32;
    private static final int MIN_TRACE = 1;
    private static final int MAX_TRACE = 32;
    private static final int NO_TOKEN = -1;

    // Where control stands in a block: in a called function, or in one of the bodies of a TRY.
    private static final int IN_CALL = 0;
    private static final int IN_TRY = 1;
    private static final int IN_CATCH = 2;
    private static final int IN_FINALLY = 3;

    // A token runs at most once in each activation of its function, and 32 tokens make
    // fewer than a thousand activations, so no run comes near this bound.
    private static final int MAX_STEPS = 1000000;

    private final int maxTokens;
    private final int traceCapacity;

    private final int[] kinds = new int[MAX_TOKENS];
    private final int[] args = new int[MAX_TOKENS];
    private int tokenCount;

    // What compile leaves for run. tryOf tells the TRY that a CATCH, FINALLY or END belongs to,
    // and is NO_TOKEN for all else.
    private final int[] functionStart = new int[MAX_FUNCTIONS];
    private final int[] tryOf = new int[MAX_TOKENS];
    private boolean compiled;
    private int functionCount;

    // Working state of compile. Every open TRY is another token, so MAX_TOKENS are enough.
    private final int[] openTry = new int[MAX_TOKENS];
    private final int[] openPart = new int[MAX_TOKENS];
    private int openCount;
    private boolean inFunction;
    private int startedFunctions;
    private int highestCall;

    // Working state of run. Calls only go to higher functions, so no TRY or CALL token has
    // two frames at a time, and MAX_TOKENS are enough. Every body of a valid program is closed
    // by a token, so pc never passes the last one. The looks at these bounds below only make it
    // plain that no index can go astray.
    private final int[] frameToken = new int[MAX_TOKENS];
    private final int[] framePart = new int[MAX_TOKENS];
    // In a CATCH body the type it caught, in a FINALLY body the type under way, or 0.
    private final int[] frameType = new int[MAX_TOKENS];
    private int depth;
    private int pc;
    private int acc;

    private final int[] trace = new int[MAX_TRACE];
    private int traceLength;
    private int status;
    private int result;
    private int uncaughtType;
    private int catchRuns;
    private int finallyRuns;

    public TwoPhaseUnwind(int maxTokens, int traceCapacity) {
        this.maxTokens = clamp(maxTokens, MIN_TOKENS, MAX_TOKENS);
        this.traceCapacity = clamp(traceCapacity, MIN_TRACE, MAX_TRACE);
    }

    public void reset() {
        tokenCount = 0;
        dropProgram();
    }

    public boolean addToken(int kind, int arg) {
        if (tokenCount >= maxTokens) {
            return false;
        }
        if (kind < T_FUNC || kind > T_CALL) {
            return false;
        }
        kinds[tokenCount] = kind;
        args[tokenCount] = arg;
        tokenCount++;
        dropProgram();
        return true;
    }

    public int compile() {
        dropProgram();
        startParse();
        for (int i = 0; i < tokenCount; i++) {
            if (!acceptToken(i)) {
                return i;
            }
        }
        if (!isWholeProgram()) {
            return tokenCount;
        }
        compiled = true;
        functionCount = startedFunctions;
        return COMPILE_OK;
    }

    public boolean run(int input) {
        if (!compiled) {
            return false;
        }
        clearResults();
        acc = input;
        depth = 0;
        pc = functionStart[0] + 1;
        for (int step = 0; step < MAX_STEPS && status == STATUS_NONE && pc < tokenCount; step++) {
            executeToken();
        }
        return true;
    }

    public int getTokenCount() {
        return tokenCount;
    }

    public int getTokenKind(int i) {
        return i >= 0 && i < tokenCount ? kinds[i] : 0;
    }

    public int getTokenArg(int i) {
        return i >= 0 && i < tokenCount ? args[i] : 0;
    }

    public boolean isCompiled() {
        return compiled;
    }

    public int getFunctionCount() {
        return functionCount;
    }

    public int getStatus() {
        return status;
    }

    public int getResult() {
        return result;
    }

    public int getUncaughtType() {
        return uncaughtType;
    }

    public int getTraceLength() {
        return traceLength;
    }

    public int getTrace(int i) {
        return i >= 0 && i < traceLength ? trace[i] : 0;
    }

    public int getCatchRuns() {
        return catchRuns;
    }

    public int getFinallyRuns() {
        return finallyRuns;
    }

    private static int clamp(int value, int least, int most) {
        if (value < least) {
            return least;
        }
        return value > most ? most : value;
    }

    private void dropProgram() {
        compiled = false;
        functionCount = 0;
        clearResults();
    }

    private void clearResults() {
        status = STATUS_NONE;
        result = 0;
        uncaughtType = 0;
        traceLength = 0;
        catchRuns = 0;
        finallyRuns = 0;
    }

    // ---- compile ----

    private void startParse() {
        openCount = 0;
        inFunction = false;
        startedFunctions = 0;
        highestCall = 0;
        for (int i = 0; i < MAX_TOKENS; i++) {
            tryOf[i] = NO_TOKEN;
        }
    }

    /** Answers whether a valid program can still begin with the tokens up to i. */
    private boolean acceptToken(int i) {
        if (!inFunction) {
            return acceptFunction(i);
        }
        switch (kinds[i]) {
            case T_END:
                return acceptEnd(i);
            case T_TRY:
                return acceptTry(i);
            case T_CATCH:
                return args[i] >= CATCH_ANY && args[i] <= MAX_TYPE && acceptClause(i, IN_CATCH);
            case T_FINALLY:
                return acceptClause(i, IN_FINALLY);
            case T_ADD:
            case T_MARK:
                return true;
            case T_THROW:
            case T_THROWNZ:
                return args[i] >= 1 && args[i] <= MAX_TYPE;
            case T_RETHROW:
                return isInsideCatch();
            case T_CALL:
                return acceptCall(args[i]);
            default:
                return false;
        }
    }

    private boolean acceptFunction(int i) {
        if (kinds[i] != T_FUNC || startedFunctions >= MAX_FUNCTIONS) {
            return false;
        }
        functionStart[startedFunctions] = i;
        startedFunctions++;
        inFunction = true;
        return true;
    }

    private boolean acceptEnd(int i) {
        if (openCount == 0) {
            inFunction = false;
            return true;
        }
        int top = openCount - 1;
        if (openPart[top] == IN_TRY) {
            return false;
        }
        tryOf[i] = openTry[top];
        openCount = top;
        return true;
    }

    private boolean acceptTry(int i) {
        if (openCount >= MAX_TOKENS) {
            return false;
        }
        openTry[openCount] = i;
        openPart[openCount] = IN_TRY;
        openCount++;
        return true;
    }

    private boolean acceptClause(int i, int part) {
        if (openCount == 0) {
            return false;
        }
        int top = openCount - 1;
        if (openPart[top] == IN_FINALLY) {
            return false;
        }
        openPart[top] = part;
        tryOf[i] = openTry[top];
        return true;
    }

    private boolean isInsideCatch() {
        for (int i = 0; i < openCount; i++) {
            if (openPart[i] == IN_CATCH) {
                return true;
            }
        }
        return false;
    }

    private boolean acceptCall(int function) {
        // The current function is startedFunctions - 1.
        if (function < startedFunctions || function >= MAX_FUNCTIONS) {
            return false;
        }
        if (function > highestCall) {
            highestCall = function;
        }
        return true;
    }

    private boolean isWholeProgram() {
        return startedFunctions > 0 && !inFunction && highestCall < startedFunctions;
    }

    // ---- run ----

    private void executeToken() {
        int arg = args[pc];
        switch (kinds[pc]) {
            case T_ADD:
                acc += arg;
                pc++;
                break;
            case T_MARK:
                keepMark(arg);
                pc++;
                break;
            case T_THROW:
                raise(arg);
                break;
            case T_THROWNZ:
                if (acc != 0) {
                    raise(arg);
                } else {
                    pc++;
                }
                break;
            case T_RETHROW:
                int caught = innermostCaughtType();
                raise(caught);
                break;
            case T_CALL:
                enterFunction(arg);
                break;
            case T_TRY:
                pushFrame(IN_TRY);
                pc++;
                break;
            default:
                // A CATCH, FINALLY or END that is reached closes the body before it.
                finishBody();
                break;
        }
    }

    private void keepMark(int value) {
        if (traceLength < traceCapacity) {
            trace[traceLength] = value;
            traceLength++;
        }
    }

    private void enterFunction(int function) {
        if (function >= 0 && function < functionCount) {
            pushFrame(IN_CALL);
            pc = functionStart[function] + 1;
        }
    }

    private void pushFrame(int part) {
        if (depth < MAX_TOKENS) {
            frameToken[depth] = pc;
            framePart[depth] = part;
            depth++;
        }
    }

    private void finishBody() {
        if (depth == 0) {
            endRun(STATUS_NORMAL, 0);
            return;
        }
        int top = depth - 1;
        int owed = owedFinally(top);
        if (framePart[top] == IN_CALL) {
            leaveTo(frameToken[top] + 1);
        } else if (owed != NO_TOKEN) {
            startFinally(top, owed, 0);
        } else if (framePart[top] == IN_FINALLY && frameType[top] != 0) {
            unwind(frameType[top]);
        } else {
            int end = findPart(frameToken[top], T_END);
            leaveTo(end + 1);
        }
    }

    private void leaveTo(int nextToken) {
        depth--;
        pc = nextToken;
    }

    private void endRun(int endStatus, int type) {
        status = endStatus;
        result = acc;
        uncaughtType = type;
    }

    /** Handles a throw: the search changes nothing, so that without a handler no body runs. */
    private void raise(int type) {
        if (hasHandler(type)) {
            unwind(type);
        } else {
            endRun(STATUS_UNCAUGHT, type);
        }
    }

    private boolean hasHandler(int type) {
        for (int frame = depth - 1; frame >= 0; frame--) {
            if (activeClause(frame, type) != NO_TOKEN) {
                return true;
            }
        }
        return false;
    }

    /**
     * Leaves frames until one has a body to run: a FINALLY on the way, or the handler. A FINALLY
     * body that completes leaves the frames around it as they were when the search went through
     * them, so the first clause met on the way is the one that the search has found.
     */
    private void unwind(int type) {
        for (int frame = depth - 1; frame >= 0; frame--) {
            depth = frame + 1;
            int handler = activeClause(frame, type);
            if (handler != NO_TOKEN) {
                startCatch(frame, handler, type);
                return;
            }
            int owed = owedFinally(frame);
            if (owed != NO_TOKEN) {
                startFinally(frame, owed, type);
                return;
            }
        }
    }

    private int activeClause(int frame, int type) {
        if (framePart[frame] != IN_TRY) {
            return NO_TOKEN;
        }
        for (int i = 0; i < tokenCount; i++) {
            boolean clause = kinds[i] == T_CATCH && tryOf[i] == frameToken[frame];
            if (clause && (args[i] == CATCH_ANY || args[i] == type)) {
                return i;
            }
        }
        return NO_TOKEN;
    }

    private int owedFinally(int frame) {
        return framePart[frame] == IN_FINALLY ? NO_TOKEN : findPart(frameToken[frame], T_FINALLY);
    }

    private int findPart(int tryToken, int kind) {
        for (int i = 0; i < tokenCount; i++) {
            if (kinds[i] == kind && tryOf[i] == tryToken) {
                return i;
            }
        }
        return NO_TOKEN;
    }

    private void startCatch(int frame, int handler, int type) {
        framePart[frame] = IN_CATCH;
        frameType[frame] = type;
        catchRuns++;
        pc = handler + 1;
    }

    private void startFinally(int frame, int owed, int type) {
        framePart[frame] = IN_FINALLY;
        frameType[frame] = type;
        finallyRuns++;
        pc = owed + 1;
    }

    /** Frames nest as the text of their function does, so the innermost CATCH is the lexical one. */
    private int innermostCaughtType() {
        for (int frame = depth - 1; frame >= 0; frame--) {
            if (framePart[frame] == IN_CATCH) {
                return frameType[frame];
            }
        }
        return 0;
    }
}
