import java.util.ArrayList;
import java.util.List;

/** Reads the grammar by recursive descent into a tree of pieces, and then formats the tree. */
final class Model {
    private record Branch(String key, List<Object> message) { }

    private record Choice(int argument, boolean plural, List<Branch> branches) { }

    private record Number(int argument) { }

    private final String template;
    private final int rules;
    private final int[] values;
    private int at = 0;
    private boolean broken = false;
    final boolean sound;
    int named = 0;
    int consulted = 0;
    String text = "";

    Model(String template, int rules, int[] values) {
        this.template = template;
        this.rules = rules;
        this.values = values;
        List<Object> message = message(0);
        sound = !broken && at == template.length();
        if (sound) {
            text = formatted(message, -1);
        }
    }

    private char peek() {
        return at < template.length() ? template.charAt(at) : 0;
    }

    private char take(String allowed) {
        char c = peek();
        if (c == 0 || allowed.indexOf(c) < 0) {
            broken = true;
            return '0';
        }
        at++;
        return c;
    }

    private List<Object> message(int depth) {
        List<Object> pieces = new ArrayList<>();
        while (!broken && peek() != 0) {
            char c = peek();
            if (c == '{') {
                pieces.add(braces(depth + 1));
            } else if ("abcdefghijklmnopqrstuvwxyz0123456789 ,.!-#".indexOf(c) >= 0) {
                pieces.add(c);
                at++;
            } else {
                break;
            }
        }
        return pieces;
    }

    private Object braces(int depth) {
        take("{");
        broken |= depth > 4;
        int argument = take("0123") - '0';
        named |= 1 << argument;
        char kind = take("}?:");
        if (kind == '}') {
            return new Number(argument);
        }
        List<Branch> branches = new ArrayList<>();
        do {
            String key = "" + take("=abcdefghijklmnopqrstuvwxyz");
            key += key.equals("=") ? "" + take("0123456789") : "";
            take("(");
            List<Object> message = message(depth);
            take(")");
            branches.add(new Branch(key, message));
        } while (!broken && peek() != '}');
        take("}");
        return new Choice(argument, kind == '?', branches);
    }

    private String formatted(List<Object> message, int around) {
        StringBuilder t = new StringBuilder();
        for (Object piece : message) {
            if (piece instanceof Number n) {
                t.append(looked(n.argument));
            } else if (piece instanceof Choice c) {
                String value = looked(c.argument);
                String letter = c.plural ? plural(value.replace("-", "")) : select(values[c.argument]);
                for (Branch b : chosen(c.branches, "=" + value, letter)) {
                    t.append(formatted(b.message, c.plural ? c.argument : around));
                }
            } else if (piece.equals('#') && around >= 0) {
                t.append(looked(around));
            } else {
                t.append(piece);
            }
        }
        return t.toString();
    }

    private String looked(int argument) {
        consulted |= 1 << argument;
        return String.valueOf(values[argument]);
    }

    private static List<Branch> chosen(List<Branch> branches, String... keys) {
        for (String key : List.of(keys[0], keys[1], "x")) {
            for (Branch b : branches) {
                if (b.key.equals(key)) {
                    return List.of(b);
                }
            }
        }
        return List.of();
    }

    private static String select(int value) {
        return value < 0 || value > 22 ? "x" : "abcdefghijklmnopqrstuvw".substring(value, value + 1);
    }

    private String plural(String digits) {
        if (rules == 0) {
            return digits.equals("1") ? "o" : "x";
        }
        if (rules == 1) {
            return digits.matches(".*1") && !digits.matches(".*11") ? "o"
                : digits.matches(".*[234]") && !digits.matches(".*1[234]") ? "f" : "m";
        }
        int lastTwo = Integer.parseInt(digits.substring(Math.max(0, digits.length() - 2)));
        return digits.equals("0") ? "z" : digits.equals("1") ? "o" : digits.equals("2") ? "t"
            : lastTwo >= 3 && lastTwo <= 10 ? "f" : lastTwo >= 11 ? "m" : "x";
    }
}
