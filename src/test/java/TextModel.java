import java.util.ArrayDeque;
import java.util.ArrayList;
import java.util.Arrays;
import java.util.Deque;
import java.util.List;
import java.util.Map;
import java.util.regex.Matcher;
import java.util.regex.Pattern;

/**
 * The two texts told a second time, by other means than the class: faults by a flat machine of states, values by
 * walking the tokens each time they are asked.
 */
final class TextModel {
    static final List<String> LAW_HEADS = List.of("down", "dry", "soup", "sweat");
    static final List<String> CODE_HEADS = List.of("load", "stop", "test");
    static final List<String> LAW_NAMES =
        List.of("wet", "water", "ore", "layer", "sort", "rain", "clock", "shaken", "lit");
    static final List<String> CODE_NAMES =
        List.of("said", "can", "age", "rain", "day", "loaded", "swell", "port");

    record Token(String text, int place) {
    }

    record Line(String head, int person, List<Token> value, List<Token> when) {
    }

    private enum State { HEAD, PERSON, WHEN, CLAIM, UNIT, DIVISOR, AFTER_UNIT, AFTER_CLAIM }

    private enum Side { VALUE, LEFT, RIGHT }

    private final boolean laws;
    int fault;
    int place = -1;
    final List<Line> lines = new ArrayList<>();

    private State state = State.HEAD;
    private Side side = Side.VALUE;
    /** Brackets and nots that are open. */
    private final Deque<String> open = new ArrayDeque<>();
    private int heads;

    TextModel(boolean laws, String text) {
        this.laws = laws;
        Matcher matcher = Pattern.compile("[A-Za-z]+|[0-9]+|[^ \n]", Pattern.DOTALL).matcher(text);
        List<Token> line = new ArrayList<>();
        while (matcher.find() && fault == 0) {
            Token token = new Token(matcher.group(), matcher.start());
            fault = step(token.text());
            place = fault == 0 ? -1 : token.place();
            if (token.text().equals(";")) {
                if (fault == 0) {
                    lines.add(cut(line));
                }
                line = new ArrayList<>();
            } else {
                line.add(token);
            }
        }
        if (fault == 0 && state != State.HEAD) {
            fault = 1;
            place = text.length();
        }
    }

    private static boolean isNumber(String token) {
        return token.matches("[0-9]{1,4}");
    }

    private boolean isUnit(String token) {
        return isNumber(token) || (laws ? LAW_NAMES : CODE_NAMES).contains(token);
    }

    private int step(String token) {
        switch (state) {
            case HEAD:
                if (!(laws ? LAW_HEADS : CODE_HEADS).contains(token)) {
                    return 1;
                }
                heads++;
                if (heads == 17) {
                    return 3;
                }
                side = Side.VALUE;
                state = laws ? State.UNIT : State.PERSON;
                return 0;
            case PERSON:
                state = State.WHEN;
                return !isNumber(token) ? 1 : Integer.parseInt(token) > 3 ? 2 : 0;
            case WHEN:
                state = State.CLAIM;
                return token.equals("when") ? 0 : 1;
            case CLAIM:
                if (token.equals("not") || token.equals("(")) {
                    open.push(token);
                    return open.size() == 9 ? 3 : 0;
                }
                side = Side.LEFT;
                state = State.AFTER_UNIT;
                return isUnit(token) ? 0 : 1;
            case UNIT:
                state = State.AFTER_UNIT;
                return isUnit(token) ? 0 : 1;
            case DIVISOR:
                state = State.AFTER_UNIT;
                return !isNumber(token) ? 1 : Integer.parseInt(token) == 0 ? 2 : 0;
            case AFTER_UNIT:
                return afterUnit(token);
            default:
                return afterClaim(token);
        }
    }

    private int afterUnit(String token) {
        if (token.equals("+") || token.equals("-") || token.equals("*")) {
            state = State.UNIT;
            return 0;
        }
        if (token.equals("/")) {
            state = State.DIVISOR;
            return 0;
        }
        if (side == Side.VALUE) {
            state = token.equals("when") ? State.CLAIM : State.HEAD;
            return token.equals("when") || token.equals(";") ? 0 : 1;
        }
        if (side == Side.LEFT) {
            side = Side.RIGHT;
            state = State.UNIT;
            return token.equals("<") || token.equals("=") || token.equals(">") ? 0 : 1;
        }
        return afterClaim(token);
    }

    private int afterClaim(String token) {
        while ("not".equals(open.peek())) {
            open.pop();
        }
        switch (token) {
            case "and":
            case "or":
                state = State.CLAIM;
                return 0;
            case ")":
                state = State.AFTER_CLAIM;
                return open.poll() == null ? 1 : 0;
            case ";":
                state = State.HEAD;
                return open.isEmpty() ? 0 : 1;
            default:
                return 1;
        }
    }

    private Line cut(List<Token> tokens) {
        int at = 0;
        while (at < tokens.size() && !tokens.get(at).text().equals("when")) {
            at++;
        }
        List<Token> value = new ArrayList<>(tokens.subList(1, at));
        List<Token> when = at < tokens.size() ? new ArrayList<>(tokens.subList(at + 1, tokens.size())) : List.of();
        int person = laws ? -1 : Integer.parseInt(value.get(0).text());
        return new Line(tokens.get(0).text(), person, value, when);
    }

    int law(String head, Map<String, Integer> env) {
        for (Line line : lines) {
            if (line.head().equals(head) && (line.when().isEmpty() || truth(line.when(), env))) {
                return value(line.value(), env);
            }
        }
        return 0;
    }

    boolean some(String head, int person, Map<String, Integer> env) {
        return lines.stream().anyMatch(line -> line.head().equals(head)
            && (person < 0 || line.person() == person) && truth(line.when(), env));
    }

    /** The parts between a sign that stands outside of brackets. */
    private static List<List<Token>> parts(List<Token> tokens, String sign) {
        List<List<Token>> parts = new ArrayList<>();
        List<Token> part = new ArrayList<>();
        int depth = 0;
        for (Token token : tokens) {
            depth += token.text().equals("(") ? 1 : token.text().equals(")") ? -1 : 0;
            if (depth == 0 && token.text().equals(sign)) {
                parts.add(part);
                part = new ArrayList<>();
            } else {
                part.add(token);
            }
        }
        parts.add(part);
        return parts;
    }

    private static boolean truth(List<Token> tokens, Map<String, Integer> env) {
        List<List<Token>> alternatives = parts(tokens, "or");
        if (alternatives.size() > 1) {
            return alternatives.stream().anyMatch(part -> truth(part, env));
        }
        List<List<Token>> needs = parts(tokens, "and");
        if (needs.size() > 1) {
            return needs.stream().allMatch(part -> truth(part, env));
        }
        if (tokens.get(0).text().equals("not")) {
            return !truth(tokens.subList(1, tokens.size()), env);
        }
        if (tokens.get(0).text().equals("(")) {
            return truth(tokens.subList(1, tokens.size() - 1), env);
        }
        for (String sign : Arrays.asList("<", "=", ">")) {
            List<List<Token>> sides = parts(tokens, sign);
            if (sides.size() == 2) {
                int compared = Integer.compare(value(sides.get(0), env), value(sides.get(1), env));
                return compared == "<=>".indexOf(sign) - 1;
            }
        }
        throw new IllegalStateException("no claim: " + tokens);
    }

    private static int value(List<Token> tokens, Map<String, Integer> env) {
        int sum = 0;
        int term = unit(tokens.get(0), env);
        int sign = 1;
        for (int i = 1; i + 1 < tokens.size(); i += 2) {
            int next = unit(tokens.get(i + 1), env);
            switch (tokens.get(i).text()) {
                case "*":
                    term *= next;
                    break;
                case "/":
                    term /= next;
                    break;
                default:
                    sum += sign * term;
                    sign = tokens.get(i).text().equals("+") ? 1 : -1;
                    term = next;
                    break;
            }
        }
        return sum + sign * term;
    }

    private static int unit(Token token, Map<String, Integer> env) {
        return isNumber(token.text()) ? Integer.parseInt(token.text()) : env.get(token.text());
    }
}
