import java.util.ArrayDeque;
import java.util.ArrayList;
import java.util.Arrays;
import java.util.Deque;
import java.util.HashSet;
import java.util.List;
import java.util.Map;
import java.util.Set;

/** A text as the Model reads it: by a table of what may stand, not as SilkRise does. */
final class ModelText {
    static final class DividedByNothing extends RuntimeException {
        private static final long serialVersionUID = 1L;
    }

    interface Term {
        int of(Map<String, Integer> vars);
    }

    record Token(String kind, String text, int place) {
        int number() {
            return Integer.parseInt(text);
        }
    }

    record Choice(Term one, Term other, Term then) {
    }

    record Law(List<Choice> choices, Term last) {
        int of(Map<String, Integer> vars) {
            try {
                for (Choice choice : choices) {
                    if (choice.one.of(vars) < choice.other.of(vars)) {
                        return choice.then.of(vars);
                    }
                }
                return last.of(vars);
            } catch (DividedByNothing e) {
                return 0;
            }
        }
    }

    private static final Set<String> WORDS = new HashSet<>(Arrays.asList(("load silk hook lift wind ties pays rim gusts seed if then else"
            + " hour day size weight high across price up stored").split(" ")));
    private static final List<String> VARS = List.of("hour", "day", "size", "weight", "high", "across", "price", "up", "stored");
    private static final List<String> LAWS = List.of("lift", "wind", "ties", "pays");

    final List<int[]> loads = new ArrayList<>();
    final List<int[]> silks = new ArrayList<>();
    final List<int[]> hooks = new ArrayList<>();
    final Law[] laws = new Law[4];
    int rim = 10;
    int gusts = 0;
    int seed = 0;
    int fault = 0;
    int place = -1;

    private final List<Token> tokens = new ArrayList<>();
    private int at = 0;

    ModelText(byte[] tape) {
        laws[0] = new Law(List.of(), v -> v.get("size") - v.get("weight"));
        laws[1] = new Law(List.of(), v -> 0);
        laws[2] = new Law(List.of(), v -> v.get("weight"));
        laws[3] = new Law(List.of(), v -> v.get("price"));
        cut(tape);
        int bad = firstThatCannotStand();
        int full = firstWithoutRoom(bad);
        if (full >= 0) {
            fault = 2;
            place = tokens.get(full).place;
        } else if (bad >= 0) {
            fault = 1;
            place = tokens.get(bad).place;
        } else {
            take();
        }
    }

    private void cut(byte[] tape) {
        String text = new String(tape, java.nio.charset.StandardCharsets.ISO_8859_1);
        java.util.regex.Matcher m = java.util.regex.Pattern.compile("[\\t\\n\\r ]+|[a-z]+|[0-9]+|[\\s\\S]").matcher(text);
        while (m.find()) {
            String s = m.group();
            char c = s.charAt(0);
            if ("\t\n\r ".indexOf(c) >= 0) {
                continue;
            }
            String kind = "none";
            if (c >= 'a' && c <= 'z' && s.length() <= 8) {
                kind = WORDS.contains(s) ? s : "NAME";
            } else if (c >= '0' && c <= '9' && s.length() <= 4) {
                kind = "INT";
            } else if (";=+-*/<()".indexOf(c) >= 0) {
                kind = s;
            }
            tokens.add(new Token(kind, s, m.start()));
        }
        tokens.add(new Token("end", "", tape.length));
    }

    /** What a symbol becomes ahead of a TOKEN; null if it can be nothing there. */
    private static String[] becomes(String symbol, String kind) {
        switch (symbol) {
            case "Text":
                return kind.equals("end") ? new String[] {"end"} : new String[] {"Tell", "Text"};
            case "Tell":
                switch (kind) {
                    case "load":
                    case "hook":
                        return new String[] {kind, "NAME", "INT", "INT", "INT", ";"};
                    case "silk":
                        return new String[] {kind, "NAME", "INT", "Sign", "INT", ";"};
                    case "rim":
                    case "gusts":
                    case "seed":
                        return new String[] {kind, "INT", ";"};
                    default:
                        return LAWS.contains(kind) ? new String[] {kind, "=", "Law", ";"} : null;
                }
            case "Sign":
                return kind.equals("-") ? new String[] {"-"} : new String[0];
            case "Law":
                return kind.equals("if") ? new String[] {"if", "E", "<", "E", "then", "E", "else", "Law"} : new String[] {"E"};
            case "E":
                return new String[] {"Part", "E2"};
            case "E2":
                return kind.equals("+") || kind.equals("-") ? new String[] {kind, "Part", "E2"} : new String[0];
            case "Part":
                return new String[] {"Unit", "Part2"};
            case "Part2":
                return kind.equals("*") || kind.equals("/") ? new String[] {kind, "Unit", "Part2"} : new String[0];
            default:
                if (kind.equals("(")) {
                    return new String[] {"(", "E", ")"};
                }
                return kind.equals("INT") || VARS.contains(kind) ? new String[] {kind} : null;
        }
    }

    private int firstThatCannotStand() {
        Set<String> symbols = Set.of("Text", "Tell", "Sign", "Law", "E", "E2", "Part", "Part2", "Unit");
        Deque<String> stack = new ArrayDeque<>();
        stack.push("Text");
        int i = 0;
        while (!stack.isEmpty()) {
            String symbol = stack.pop();
            String kind = tokens.get(i).kind;
            if (!symbols.contains(symbol)) {
                if (!symbol.equals(kind)) {
                    return i;
                }
                i++;
                continue;
            }
            String[] parts = becomes(symbol, kind);
            if (parts == null) {
                return i;
            }
            for (int p = parts.length - 1; p >= 0; p--) {
                stack.push(parts[p]);
            }
        }
        return -1;
    }

    private int firstWithoutRoom(int bad) {
        int end = bad >= 0 ? bad : tokens.size() - 1;
        int[] sorts = new int[3];
        int ifs = 0;
        int within = 0;
        for (int i = 0; i < end; i++) {
            String kind = tokens.get(i).kind;
            boolean full = i >= 400;
            switch (kind) {
                case "load":
                    full |= ++sorts[0] > 7;
                    break;
                case "silk":
                    full |= ++sorts[1] > 5;
                    break;
                case "hook":
                    full |= ++sorts[2] > 5;
                    break;
                case "if":
                    full |= ++ifs > 4;
                    break;
                case ";":
                    ifs = 0;
                    break;
                case "(":
                    full |= ++within > 6;
                    break;
                case ")":
                    within--;
                    break;
                default:
                    break;
            }
            if (full) {
                return i;
            }
        }
        return -1;
    }

    private void late(int kind, Token token) {
        if (fault == 0) {
            fault = kind;
            place = token.place;
        }
    }

    private Token next() {
        return tokens.get(at++);
    }

    private boolean isNext(String kind) {
        return tokens.get(at).kind.equals(kind);
    }

    private int number(int least, int most) {
        int sign = 1;
        if (isNext("-")) {
            next();
            sign = -1;
        }
        Token token = next();
        int value = sign * token.number();
        if (value < least || value > most) {
            late(5, token);
        }
        return value;
    }

    private void take() {
        Set<String> names = new HashSet<>();
        while (!isNext("end")) {
            String sort = next().kind;
            if (isNext("NAME")) {
                Token name = next();
                if (!names.add(name.text)) {
                    late(3, name);
                }
            }
            switch (sort) {
                case "load":
                    loads.add(new int[] {number(0, 19), number(1, 9), number(0, 99)});
                    break;
                case "silk":
                    silks.add(new int[] {number(1, 9), number(-3, 3)});
                    break;
                case "hook":
                    hooks.add(new int[] {number(0, 19), number(0, 5), number(1, 9)});
                    break;
                case "rim":
                    rim = number(1, 99);
                    break;
                case "gusts":
                    gusts = number(0, 100);
                    break;
                case "seed":
                    seed = number(0, 9999);
                    break;
                default:
                    next();
                    laws[LAWS.indexOf(sort)] = law();
                    break;
            }
            next();
        }
    }

    private Law law() {
        List<Choice> choices = new ArrayList<>();
        while (isNext("if")) {
            next();
            Term one = sum();
            next();
            Term other = sum();
            next();
            Term then = sum();
            next();
            choices.add(new Choice(one, other, then));
        }
        return new Law(choices, sum());
    }

    private Term sum() {
        Term left = product();
        while (isNext("+") || isNext("-")) {
            boolean more = next().kind.equals("+");
            Term one = left;
            Term other = product();
            left = v -> {
                int a = one.of(v);
                int b = other.of(v);
                return more ? a + b : a - b;
            };
        }
        return left;
    }

    private Term product() {
        Term left = unit();
        while (isNext("*") || isNext("/")) {
            boolean times = next().kind.equals("*");
            Term one = left;
            Term other = unit();
            left = v -> {
                int a = one.of(v);
                int b = other.of(v);
                if (!times && b == 0) {
                    throw new DividedByNothing();
                }
                return times ? a * b : (int) ((long) a / b);
            };
        }
        return left;
    }

    private Term unit() {
        Token token = next();
        if (token.kind.equals("(")) {
            Term inner = sum();
            next();
            return inner;
        }
        if (token.kind.equals("INT")) {
            int value = token.number();
            return v -> value;
        }
        return v -> v.getOrDefault(token.kind, 0);
    }
}
