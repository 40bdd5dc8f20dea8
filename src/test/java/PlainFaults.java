import java.util.ArrayDeque;
import java.util.Deque;

/** The FAULTS of a LAW found sign by sign, with what is open kept on a stack and no method for a part of it. */
final class PlainFaults {
    private enum Due { CLAUSE, BRACKET, PIECE, FACTOR, BEHIND_FACTOR, BEHIND_PIECE, BEHIND_CLAUSE }

    private enum Part { COST, LEFT, RIGHT }

    private final String text;
    private final Deque<Character> open = new ArrayDeque<>();
    private Due due = Due.CLAUSE;
    private Part part = Part.COST;
    private int clauses;
    private int digits;

    private PlainFaults(String s) {
        text = s;
    }

    /** 0: there is none; else what law() answers. */
    static int of(String s) {
        PlainFaults faults = new PlainFaults(s);
        for (int i = 0; i < s.length(); i++) {
            int fault = faults.at(s.charAt(i));
            if (fault != 0) {
                return -1000 * fault - i;
            }
        }
        return faults.due == Due.BEHIND_CLAUSE ? 0 : -1000 - faults.text.length();
    }

    private int push(char c, Due next) {
        if (open.size() == 6) {
            return 5;
        }
        open.push(c);
        due = next;
        return 0;
    }

    private int go(boolean fits, Due next) {
        due = next;
        return fits ? 0 : 1;
    }

    private int at(char c) {
        boolean goesOn = digits > 0 && c >= '0' && c <= '9';
        digits = goesOn ? digits + 1 : 0;
        if (goesOn) {
            return digits > 5 ? 2 : 0;
        }
        switch (due) {
            case CLAUSE:
                if (c != 'n' && c != 'c') {
                    return 1;
                }
                clauses++;
                part = c == 'c' ? Part.COST : Part.LEFT;
                due = c == 'c' ? Due.FACTOR : Due.BRACKET;
                return clauses > 12 ? 4 : 0;
            case BRACKET:
                return c == '(' ? push('(', Due.PIECE) : 1;
            case PIECE:
                if (c == '!' || c == '(') {
                    return push(c, Due.PIECE);
                }
                part = Part.LEFT;
                return factor(c);
            case FACTOR:
                return factor(c);
            case BEHIND_FACTOR:
                return behindFactor(c);
            case BEHIND_PIECE:
                return behindPiece(c);
            default:
                return go(c == ';', Due.CLAUSE);
        }
    }

    private int factor(char c) {
        if (c == '[') {
            return push('[', Due.FACTOR);
        }
        digits = c >= '0' && c <= '9' ? 1 : 0;
        return go(digits == 1 || "abfgiklop".indexOf(c) >= 0, Due.BEHIND_FACTOR);
    }

    private int behindFactor(char c) {
        if ("+-*/%".indexOf(c) >= 0) {
            return go(true, Due.FACTOR);
        }
        if (!open.isEmpty() && open.peek() == '[') {
            if (c == ']') {
                open.pop();
            }
            return go(c == ']', Due.BEHIND_FACTOR);
        }
        if (part == Part.COST) {
            return c == '(' ? push('(', Due.PIECE) : 1;
        }
        if (part == Part.LEFT) {
            part = Part.RIGHT;
            return go("<>=".indexOf(c) >= 0, Due.FACTOR);
        }
        return behindPiece(c);
    }

    private int behindPiece(char c) {
        while (open.peek() == '!') {
            open.pop();
        }
        if (c == '&' || c == '|') {
            return go(true, Due.PIECE);
        }
        if (c == ')') {
            open.pop();
        }
        return go(c == ')', open.isEmpty() ? Due.BEHIND_CLAUSE : Due.BEHIND_PIECE);
    }
}
