import java.util.ArrayList;
import java.util.List;
import java.util.Map;
import java.util.Set;
import java.util.regex.Matcher;
import java.util.regex.Pattern;

/** RULES read by a machine with a stack of what is open, and asked word by word from the text itself. */
final class ModelRules {
    static final List<String> DIRECTIONS = List.of("north", "east", "south", "west");
    private static final List<String> KINDS = List.of("paper", "grave", "told", "bought", "nothing");
    private static final Set<String> WORDS = Set.of("year", "step", "food", "men", "north", "east", "south", "west",
        "afoot", "reach", "trust", "first");
    private static final Pattern TOKEN = Pattern.compile("[a-z]+|[0-9]+|[^ \n]", Pattern.DOTALL);

    private enum Wants { STATEMENT, DIRECTION, SUM, FOR, KIND, IF, ONE, SIGN, NUMBER, MORE }

    final int fault;
    private final List<List<String>> statements = new ArrayList<>();
    private int at;

    ModelRules(String text) {
        fault = faultOf(text);
    }

    private int faultOf(String text) {
        Wants wants = Wants.STATEMENT;
        List<String> open = new ArrayList<>();
        List<String> statement = new ArrayList<>();
        Matcher m = TOKEN.matcher(text);
        while (m.find()) {
            String token = m.group();
            wants = next(wants, token, open);
            if (wants == null) {
                return m.start();
            }
            statement.add(token);
            if (wants == Wants.STATEMENT) {
                statements.add(statement);
                statement = new ArrayList<>();
            }
        }
        return wants == Wants.STATEMENT ? -1 : text.length();
    }

    /** What is wanted behind a token, null if it can't stand here. */
    private Wants next(Wants wants, String token, List<String> open) {
        switch (wants) {
            case STATEMENT:
                if (statements.size() == 30) {
                    return null;
                }
                return Map.of("go", Wants.DIRECTION, "walk", Wants.DIRECTION, "stay", Wants.IF, "leave", Wants.IF,
                    "pay", Wants.SUM).get(token);
            case DIRECTION:
                return DIRECTIONS.contains(token) ? Wants.IF : null;
            case SUM:
                return token.matches("[0-9]{1,5}") ? Wants.FOR : null;
            case FOR:
                return token.equals("for") ? Wants.KIND : null;
            case KIND:
                return KINDS.contains(token) ? Wants.IF : null;
            case IF:
                return token.equals("if") ? Wants.ONE : token.equals(";") ? Wants.STATEMENT : null;
            case ONE:
                if (token.equals("not") || token.equals("(")) {
                    open.add(token);
                    return open.size() > 10 ? null : Wants.ONE;
                }
                return WORDS.contains(token) ? Wants.SIGN : null;
            case SIGN:
                return Set.of("<", ">", "=").contains(token) ? Wants.NUMBER : null;
            case NUMBER:
                close(open);
                return token.matches("[0-9]{1,5}") ? Wants.MORE : null;
            default:
                return more(token, open);
        }
    }

    private Wants more(String token, List<String> open) {
        if (token.equals("and") || token.equals("or")) {
            return Wants.ONE;
        }
        if (token.equals(")") && !open.isEmpty()) {
            open.remove(open.size() - 1);
            close(open);
            return Wants.MORE;
        }
        return token.equals(";") && open.isEmpty() ? Wants.STATEMENT : null;
    }

    private static void close(List<String> open) {
        while (!open.isEmpty() && open.get(open.size() - 1).equals("not")) {
            open.remove(open.size() - 1);
        }
    }

    int size() {
        return statements.size();
    }

    private boolean holds(List<String> statement, Map<String, Integer> asked) {
        at = statement.indexOf("if") + 1;
        return at == 0 || any(statement, asked);
    }

    private boolean any(List<String> s, Map<String, Integer> asked) {
        boolean is = all(s, asked);
        while (s.get(at).equals("or")) {
            at++;
            is |= all(s, asked);
        }
        return is;
    }

    private boolean all(List<String> s, Map<String, Integer> asked) {
        boolean is = one(s, asked);
        while (s.get(at).equals("and")) {
            at++;
            is &= one(s, asked);
        }
        return is;
    }

    private boolean one(List<String> s, Map<String, Integer> asked) {
        String first = s.get(at++);
        if (first.equals("not")) {
            return !one(s, asked);
        }
        if (first.equals("(")) {
            boolean is = any(s, asked);
            at++;
            return is;
        }
        int value = asked.getOrDefault(first, 0);
        String sign = s.get(at++);
        int number = Integer.parseInt(s.get(at++));
        return sign.equals("<") ? value < number : sign.equals(">") ? value > number : value == number;
    }

    /** The first order that holds: its words up to "if" or ";". */
    List<String> order(Map<String, Integer> asked) {
        for (List<String> s : statements) {
            if (!s.get(0).equals("pay") && holds(s, asked)) {
                return s.get(0).equals("go") || s.get(0).equals("walk") ? s.subList(0, 2) : s.subList(0, 1);
            }
        }
        return List.of("stay");
    }

    int pay(int kind, Map<String, Integer> asked) {
        for (List<String> s : statements) {
            if (s.get(0).equals("pay") && s.get(3).equals(KINDS.get(kind)) && holds(s, asked)) {
                return Integer.parseInt(s.get(1));
            }
        }
        return 0;
    }

    int quarrel(int what) {
        for (int i = 0; i < size(); i++) {
            for (int j = i + 1; j < size(); j++) {
                if (isPlainPay(i) && isPlainPay(j) && statements.get(i).get(3).equals(statements.get(j).get(3))) {
                    return what == 0 ? i : j;
                }
            }
        }
        return -1;
    }

    private boolean isPlainPay(int i) {
        return statements.get(i).get(0).equals("pay") && statements.get(i).size() == 5;
    }
}
