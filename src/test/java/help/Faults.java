import java.util.ArrayDeque;
import java.util.Deque;
import java.util.List;

/** The first fault of a way's text, by one state and a stack of what is open: no grammar is walked. */
final class Faults {
    private enum At { CLAUSE, STEPS, OPEN, PIECE, FACTOR, BEHIND_FACTOR, BEHIND_PIECE, BEHIND_CLAUSE }

    private final Deque<Character> open = new ArrayDeque<>();
    private At at = At.CLAUSE;
    private int clauses = 0;
    private int digits = 0;
    private boolean right = false;

    static int of(List<Integer> text) {
        Faults f = new Faults();
        for (int i = 0; i < text.size(); i++) {
            int fault = f.read((char) (int) text.get(i));
            if (fault != 0) {
                return -1000 * fault - i;
            }
        }
        return f.at == At.BEHIND_CLAUSE ? 0 : -1000 - text.size();
    }

    private int read(char c) {
        switch (at) {
            case CLAUSE:
                if ("slc".indexOf(c) < 0) {
                    return 1;
                }
                at = c == 'c' ? At.OPEN : At.STEPS;
                return ++clauses > 12 ? 4 : 0;
            case STEPS:
                at = At.OPEN;
                return c == '0' ? 3 : "123456789".indexOf(c) < 0 ? 1 : 0;
            case OPEN:
                return c == '(' ? push(c, At.PIECE) : 1;
            case PIECE:
                right = false;
                if (c == '!' || c == '(') {
                    return push(c, At.PIECE);
                }
                return factor(c);
            case FACTOR:
                return factor(c);
            case BEHIND_FACTOR:
                return behindFactor(c);
            case BEHIND_PIECE:
                return behindPiece(c);
            default:
                at = At.CLAUSE;
                return c == ';' ? 0 : 1;
        }
    }

    private int push(char c, At next) {
        if (open.size() == 6) {
            return 5;
        }
        open.push(c);
        at = next;
        return 0;
    }

    private int factor(char c) {
        digits = 0;
        if (c == '[') {
            return push(c, At.FACTOR);
        }
        if ("0123456789".indexOf(c) >= 0) {
            digits = 1;
        } else if ("hikzmqtno".indexOf(c) < 0) {
            return 1;
        }
        at = At.BEHIND_FACTOR;
        return 0;
    }

    private int behindFactor(char c) {
        if (digits > 0 && "0123456789".indexOf(c) >= 0) {
            return ++digits > 6 ? 2 : 0;
        }
        digits = 0;
        if ("+-*/%".indexOf(c) >= 0) {
            at = At.FACTOR;
            return 0;
        }
        if (open.peek() == '[') {
            if (c != ']') {
                return 1;
            }
            open.pop();
            return 0;
        }
        if (!right) {
            right = true;
            at = At.FACTOR;
            return "<>=".indexOf(c) < 0 ? 1 : 0;
        }
        endPiece();
        return behindPiece(c);
    }

    private void endPiece() {
        while (!open.isEmpty() && open.peek() == '!') {
            open.pop();
        }
    }

    private int behindPiece(char c) {
        if (c == '&' || c == '|') {
            at = At.PIECE;
            return 0;
        }
        if (c != ')') {
            return 1;
        }
        open.pop();
        endPiece();
        at = open.isEmpty() ? At.BEHIND_CLAUSE : At.BEHIND_PIECE;
        return 0;
    }
}
