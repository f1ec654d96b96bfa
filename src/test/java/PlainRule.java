import java.util.ArrayList;
import java.util.List;
import java.util.Map;

/** A RULE read by descent, part by part, into what it asks. */
final class PlainRule {
    /** Something that is so or not, by what the LETTERS say. */
    private interface Ask {
        boolean so(Map<Character, Integer> letters);
    }

    private record Clause(Ask when, int digit) { }

    private static final class Fault extends Exception {
        private static final long serialVersionUID = 1;
    }

    private final String text;
    private final List<Clause> clauses = new ArrayList<>();
    private int at;
    private int fault = -1;

    PlainRule(String text) {
        this.text = text;
        try {
            read();
        } catch (Fault found) {
            fault = at;
        }
    }

    /** -1 if there is none. */
    int fault() {
        return fault;
    }

    int clauses() {
        return clauses.size();
    }

    int decide(Map<Character, Integer> letters) {
        for (Clause clause : clauses) if (clause.when.so(letters)) return clause.digit;
        throw new IllegalStateException();
    }

    private char peek() {
        return at < text.length() ? text.charAt(at) : 0xFFFF;
    }

    private boolean isDigit() {
        return peek() >= '0' && peek() <= '9';
    }

    private char take(String of) throws Fault {
        if (of.indexOf(peek()) < 0) throw new Fault();
        return text.charAt(at++);
    }

    private int digit() throws Fault {
        return take("0123456789") - '0';
    }

    private void read() throws Fault {
        for (int i = 0; i < 8 && !text.startsWith("el", at); i++) {
            Ask when = when();
            take(">");
            int digit = digit();
            take(";");
            clauses.add(new Clause(when, digit));
        }
        for (String sign : "e l s e >".split(" ")) take(sign);
        int digit = digit();
        clauses.add(new Clause(letters -> true, digit));
        if (at < text.length()) throw new Fault();
    }

    private Ask when() throws Fault {
        Ask group = group();
        if (peek() != '|') return group;
        at++;
        Ask more = when();
        return letters -> group.so(letters) || more.so(letters);
    }

    private Ask group() throws Fault {
        Ask fact = fact();
        if (peek() != '&') return fact;
        at++;
        Ask more = group();
        return letters -> fact.so(letters) && more.so(letters);
    }

    private Ask fact() throws Fault {
        char letter = take("rehcnlk!(");
        if (letter == '!') {
            Ask fact = fact();
            return letters -> !fact.so(letters);
        }
        if (letter == '(') {
            Ask when = when();
            take(")");
            return when;
        }
        // Behind an e that begins a CLAUSE an l could come, too, but read() has looked for that.
        char sign = take("<=.");
        int number = number();
        return letters -> {
            int value = letters.get(letter);
            return sign == '<' ? value < number : sign == '=' ? value == number : value > number;
        };
    }

    private int number() throws Fault {
        int number = digit();
        for (int size = 1; isDigit() && size < 3 && number != 0; size++) number = number * 10 + digit();
        return number;
    }
}
