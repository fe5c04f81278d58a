import java.math.BigInteger;
import java.util.ArrayList;
import java.util.List;
import java.util.Map;
import java.util.Set;

/** A text of custom read by plain recursion: the second telling of the grammar, for Plain. */
final class PlainCustom {
    static final List<String> KINDS = List.of("home", "shop", "roof", "passage", "stair", "tap");
    static final Set<String> WORDS = Set.of("floor", "people", "since", "below", "sky", "owner");

    interface Part {
        int of(Map<String, Integer> facts);
    }

    record Statement(String sort, int kind, Part value, Part holds) { }

    static final class Fault extends RuntimeException {
        private static final long serialVersionUID = 1L;
        final int place;

        Fault(int place) {
            super("fault");
            this.place = place;
        }
    }

    final List<Statement> statements = new ArrayList<>();
    final List<String> tokens = new ArrayList<>();
    final List<Integer> places = new ArrayList<>();
    int fault = -1;
    private int at;
    private int open;

    PlainCustom(String text) {
        cut(text);
        try {
            while (!peek().isEmpty()) {
                if (statements.size() == 24) {
                    throw new Fault(places.get(at));
                }
                statements.add(statement());
            }
        } catch (Fault f) {
            fault = f.place;
        }
    }

    private void cut(String text) {
        int i = 0;
        while (i < text.length()) {
            int from = i;
            char c = text.charAt(i);
            if (c == ' ' || c == '\n') {
                i++;
                continue;
            }
            String same = c >= 'a' && c <= 'z' ? "[a-z]" : c >= '0' && c <= '9' ? "[0-9]" : "";
            i++;
            while (!same.isEmpty() && i < text.length() && text.substring(i, i + 1).matches(same)) {
                i++;
            }
            tokens.add(text.substring(from, i));
            places.add(from);
        }
        tokens.add("");
        places.add(text.length());
    }

    private String peek() {
        return tokens.get(at);
    }

    private Fault wrong() {
        return new Fault(places.get(at));
    }

    private boolean eat(String token) {
        if (!peek().equals(token)) {
            return false;
        }
        at++;
        return true;
    }

    private void need(String token) {
        if (!eat(token)) {
            throw wrong();
        }
    }

    private Statement statement() {
        String sort = peek();
        if (!Set.of("may", "pay", "draw", "water").contains(sort)) {
            throw wrong();
        }
        at++;
        int kind = 1 + KINDS.indexOf(peek());
        if (kind == 0) {
            throw wrong();
        }
        at++;
        Part value = f -> 0;
        Part holds = f -> 1;
        if (sort.equals("pay")) {
            value = ex();
        } else if (!sort.equals("may")) {
            value = number();
        }
        if ((sort.equals("may") || sort.equals("pay")) && eat("if")) {
            holds = any();
        }
        need(";");
        return new Statement(sort, kind, value, holds);
    }

    private Part number() {
        if (!peek().matches("[0-9]{1,5}")) {
            throw wrong();
        }
        int n = Integer.parseInt(peek());
        at++;
        return f -> n;
    }

    private void open() {
        if (open == 9) {
            throw wrong();
        }
        open++;
        at++;
    }

    private static int hold(BigInteger n) {
        BigInteger most = BigInteger.TEN.pow(9);
        return n.min(most).max(most.negate()).intValue();
    }

    private static BigInteger big(int n) {
        return BigInteger.valueOf(n);
    }

    private Part ex() {
        Part left = prod();
        while (peek().equals("+") || peek().equals("-")) {
            boolean plus = peek().equals("+");
            at++;
            Part a = left;
            Part b = prod();
            left = f -> hold(plus ? big(a.of(f)).add(big(b.of(f))) : big(a.of(f)).subtract(big(b.of(f))));
        }
        return left;
    }

    private Part prod() {
        Part left = atom();
        while (peek().equals("*") || peek().equals("/")) {
            boolean times = peek().equals("*");
            at++;
            Part a = left;
            Part b = atom();
            left = f -> times ? hold(big(a.of(f)).multiply(big(b.of(f))))
                    : b.of(f) == 0 ? 0 : hold(big(a.of(f)).divide(big(b.of(f))));
        }
        return left;
    }

    private Part atom() {
        if (WORDS.contains(peek())) {
            String word = peek();
            at++;
            return f -> f.get(word);
        }
        if (peek().equals("(")) {
            open();
            Part inner = ex();
            need(")");
            open--;
            return inner;
        }
        return number();
    }

    private Part any() {
        Part left = all();
        while (eat("or")) {
            Part a = left;
            Part b = all();
            left = f -> Math.max(a.of(f), b.of(f));
        }
        return left;
    }

    private Part all() {
        Part left = one();
        while (eat("and")) {
            Part a = left;
            Part b = one();
            left = f -> Math.min(a.of(f), b.of(f));
        }
        return left;
    }

    private Part one() {
        if (peek().equals("not")) {
            open();
            Part inner = one();
            open--;
            return f -> 1 - inner.of(f);
        }
        if (peek().equals("{")) {
            open();
            Part inner = any();
            need("}");
            open--;
            return inner;
        }
        Part a = ex();
        String sign = peek();
        if (!Set.of("<", ">", "=").contains(sign)) {
            throw wrong();
        }
        at++;
        Part b = ex();
        return f -> (sign.equals("<") ? a.of(f) < b.of(f) : sign.equals(">") ? a.of(f) > b.of(f)
                : a.of(f) == b.of(f)) ? 1 : 0;
    }

    int amount(int kind, int what) {
        int amount = what == 0 ? 2 : 3;
        for (Statement s : statements) {
            if (s.kind == kind && s.sort.equals(what == 0 ? "draw" : "water")) {
                amount = s.value.of(Map.of());
            }
        }
        return amount;
    }

    int first(String sort, int kind, Map<String, Integer> facts) {
        for (int i = 0; i < statements.size(); i++) {
            Statement s = statements.get(i);
            if (s.sort.equals(sort) && s.kind == kind && s.holds.of(facts) != 0) {
                return i;
            }
        }
        return -1;
    }

    int tells(int statement, Map<String, Integer> facts) {
        return statements.get(statement).value.of(facts);
    }
}
