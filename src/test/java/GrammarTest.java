import java.util.ArrayList;
import java.util.List;
import java.util.regex.Matcher;
import java.util.regex.Pattern;

/**
 * Promise 4 by its definition: the least index i such that tokens 0..i are not the beginning of any valid program.
 * A program is valid here if it can be rewritten by the rules of the document's Grammar; tokens are the beginning of
 * a valid program if there is one among those that close what may be open and add functions.
 */
public final class GrammarTest {
    private record Token(char letter, int kind, int arg) {
    }

    private static final Token FUNC = new Token('U', 1, 0);
    private static final Token END = new Token('E', 2, 0);
    private static final Token FINALLY = new Token('F', 5, 0);
    private static final Token TRY = new Token('T', 3, 0);
    private static final Token RETHROW = new Token('r', 10, 0);
    private static final List<Token> PLACES = List.of(FUNC, END, TRY, new Token('C', 4, 0), FINALLY, RETHROW,
            new Token('s', 11, 1));
    private static final List<Token> ARGS = List.of(FUNC, END, TRY, new Token('C', 4, -1), new Token('C', 4, 15),
            new Token('C', 4, 16), FINALLY, new Token('s', 6, 99), new Token('s', 7, -1), new Token('s', 8, 0),
            new Token('s', 8, 1), new Token('s', 8, 15), new Token('s', 9, 15), new Token('s', 9, 16), RETHROW,
            new Token('s', 11, 0), new Token('s', 11, 2), new Token('s', 11, 3), new Token('s', 11, 4));

    /** A try statement whose bodies hold no other one: s is a statement, r one with a RETHROW that needs a clause. */
    private static final Pattern TRY_STATEMENT = Pattern.compile("T[sr]*(?:(?:C[sr]*)+(?:F[sr]*)?|F[sr]*)E");
    private static final Pattern PROGRAM = Pattern.compile("(?:Us*E){1,4}");

    private static int valid = 0;
    private static int cut = 0;
    private static int refused = 0;

    private static boolean argFits(Token token, int function, int functions) {
        return switch (token.kind) {
            case 4 -> token.arg >= 0 && token.arg <= 15;
            case 8, 9 -> token.arg >= 1 && token.arg <= 15;
            case 11 -> function < token.arg && token.arg <= 3 && token.arg < functions;
            default -> true;
        };
    }

    private static boolean isValid(List<Token> tokens) {
        int functions = (int) tokens.stream().filter(token -> token.kind == 1).count();
        int function = -1;
        StringBuilder letters = new StringBuilder();
        for (Token token : tokens) {
            function += token.kind == 1 ? 1 : 0;
            if (!argFits(token, function, functions)) {
                return false;
            }
            letters.append(token.letter);
        }
        String text = letters.toString();
        for (Matcher m = TRY_STATEMENT.matcher(text); m.find(); m = TRY_STATEMENT.matcher(text)) {
            boolean open = m.group().replaceAll("C[sr]*", "").contains("r");
            text = text.substring(0, m.start()) + (open ? "r" : "s") + text.substring(m.end());
        }
        return PROGRAM.matcher(text).matches();
    }

    /** The bits of code are FINALLY and END tokens. */
    private static List<Token> completed(List<Token> tokens, int closers, int code, int functions) {
        List<Token> whole = new ArrayList<>(tokens);
        for (int i = 0; i < closers; i++) {
            whole.add((code >> i & 1) == 0 ? END : FINALLY);
        }
        for (int i = 0; i < functions; i++) {
            whole.add(FUNC);
            whole.add(END);
        }
        return whole;
    }

    private static boolean beginsAValidProgram(List<Token> tokens) {
        int tries = (int) tokens.stream().filter(token -> token.kind == 3).count();
        for (int closers = 0; closers <= 2 * tries + 1; closers++) {
            for (int code = 0; code < 1 << closers; code++) {
                for (int functions = 0; functions <= 4; functions++) {
                    if (isValid(completed(tokens, closers, code, functions))) {
                        return true;
                    }
                }
            }
        }
        return false;
    }

    private static int compile(List<Token> tokens) {
        TwoPhaseUnwind x = new TwoPhaseUnwind(9, 1);
        for (Token token : tokens) {
            Due.isTrue("addToken " + token, x.addToken(token.kind, token.arg));
        }
        return x.compile();
    }

    /** The tokens begin a valid program: every token behind them does too, or is where compile must stop. */
    private static void extend(List<Token> tokens, List<Token> alphabet, int length) {
        for (Token token : alphabet) {
            List<Token> longer = new ArrayList<>(tokens);
            longer.add(token);
            if (!beginsAValidProgram(longer)) {
                refused++;
                Due.equal("compile of " + longer, compile(longer), tokens.size());
                longer.add(END);
                Due.equal("compile of " + longer, compile(longer), tokens.size());
                continue;
            }
            boolean whole = isValid(longer);
            valid += whole ? 1 : 0;
            cut += whole ? 0 : 1;
            Due.equal("compile of " + longer, compile(longer), whole ? TwoPhaseUnwind.COMPILE_OK : longer.size());
            if (longer.size() < length) {
                extend(longer, alphabet, length);
            }
        }
    }

    public static void main(String[] args) {
        Due.sentence("tokens 0..i are not the beginning of any valid program: at their places",
                () -> extend(List.of(), PLACES, 7));
        Due.sentence("tokens 0..i are not the beginning of any valid program: with their args",
                () -> extend(List.of(), ARGS, 5));
        // The comparison is worth little unless each answer is due often.
        Due.isTrue("many valid programs: " + valid, valid > 100);
        Due.isTrue("many programs that are cut: " + cut, cut > 500);
        Due.isTrue("many refused tokens: " + refused, refused > 500);
        Due.finish();
    }
}
