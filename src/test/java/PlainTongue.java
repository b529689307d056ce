import java.util.ArrayList;
import java.util.List;
import java.util.Map;

/** The tongue a second time: a tree of functions, with exceptions for faults and for what is refused. */
final class PlainTongue {
    static final class Fault extends Exception {
        private static final long serialVersionUID = 1L;
        final int number;
        final int place;

        Fault(int number, int place) {
            this.number = number;
            this.place = place;
        }
    }

    private static final class Refused extends RuntimeException {
        private static final long serialVersionUID = 1L;
    }

    interface Sum {
        int of(Map<Character, Integer> letters);
    }

    interface Condition {
        boolean of(Map<Character, Integer> letters);
    }

    record Clause(char letter, Sum sum, Condition condition) {}

    private final String text;
    private int at;

    private PlainTongue(String text) {
        this.text = text;
    }

    static List<Clause> parse(String text) throws Fault {
        return new PlainTongue(text).clauses();
    }

    static int value(List<Clause> clauses, char letter, int most, Map<Character, Integer> letters) {
        for (Clause c : clauses) {
            if (c.letter != letter) continue;
            boolean holds;
            try {
                holds = c.condition.of(letters);
            } catch (Refused r) {
                holds = false;
            }
            if (!holds) continue;
            int value;
            try {
                value = c.sum.of(letters);
            } catch (Refused r) {
                value = 0;
            }
            return value < 0 ? 0 : value > most ? most : value;
        }
        return 0;
    }

    private boolean at(String signs) {
        return at < text.length() && signs.indexOf(text.charAt(at)) >= 0;
    }

    private char one(String signs) throws Fault {
        if (!at(signs)) throw new Fault(1, at);
        return text.charAt(at++);
    }

    private char opening(String signs, int open) throws Fault {
        if (!at(signs)) throw new Fault(1, at);
        if (open == 6) throw new Fault(5, at);
        return text.charAt(at++);
    }

    private List<Clause> clauses() throws Fault {
        List<Clause> all = new ArrayList<>();
        while (true) {
            if (at("mr") && all.size() == 14) throw new Fault(4, at);
            char letter = one("mr");
            Sum sum = sum(0);
            opening("(", 0);
            Condition condition = condition(1);
            one(")");
            all.add(new Clause(letter, sum, condition));
            if (at == text.length()) return all;
            one(";");
        }
    }

    private Condition condition(int open) throws Fault {
        Condition left = part(open);
        while (at("|")) {
            at++;
            Condition one = left;
            Condition other = part(open);
            left = v -> one.of(v) || other.of(v);
        }
        return left;
    }

    private Condition part(int open) throws Fault {
        Condition left = piece(open);
        while (at("&")) {
            at++;
            Condition one = left;
            Condition other = piece(open);
            left = v -> one.of(v) && other.of(v);
        }
        return left;
    }

    private Condition piece(int open) throws Fault {
        if (at("!")) {
            opening("!", open);
            Condition inner = piece(open + 1);
            return v -> !inner.of(v);
        }
        if (at("(")) {
            opening("(", open);
            Condition inner = condition(open + 1);
            one(")");
            return inner;
        }
        Sum left = sum(open);
        char sign = one("<>=");
        Sum right = sum(open);
        return v -> {
            int l = left.of(v);
            int r = right.of(v);
            return sign == '<' ? l < r : sign == '>' ? l > r : l == r;
        };
    }

    private Sum sum(int open) throws Fault {
        Sum left = product(open);
        while (at("+-")) {
            boolean plus = text.charAt(at++) == '+';
            Sum one = left;
            Sum other = product(open);
            left = v -> plus ? one.of(v) + other.of(v) : one.of(v) - other.of(v);
        }
        return left;
    }

    private Sum product(int open) throws Fault {
        Sum left = factor(open);
        while (at("*/%")) {
            char sign = text.charAt(at++);
            Sum one = left;
            Sum other = factor(open);
            left = v -> {
                int l = one.of(v);
                int r = other.of(v);
                if (sign == '*') return l * r;
                if (r == 0) throw new Refused();
                return sign == '/' ? l / r : l % r;
            };
        }
        return left;
    }

    private Sum factor(int open) throws Fault {
        if (at("[")) {
            opening("[", open);
            Sum inner = sum(open + 1);
            one("]");
            return inner;
        }
        if (at("0123456789")) {
            int from = at;
            while (at("0123456789")) {
                if (at - from == 5) throw new Fault(2, at);
                at++;
            }
            int number = Integer.parseInt(text.substring(from, at));
            return v -> number;
        }
        char letter = one("gwlpsdekaf");
        return v -> v.get(letter);
    }
}
