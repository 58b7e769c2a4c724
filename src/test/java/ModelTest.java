import java.util.ArrayList;
import java.util.List;

/** Compares the class with a recursive model of the document, over many templates and values. */
public final class ModelTest {
    private static final int[] VALUES = {0, 1, 2, 3, 4, 5, 9, 10, 11, 12, 14, 15, 21, 22, 23, 24, 25, 99, 100, 101, 102,
        103, 110, 111, 112, 1000, -1, -2, -3, -11, -21, 2147483647, -2147483648, -2147483647};

    // A fixed sequence, so that every run compares the same templates.
    private static long seed = 20261115L;

    public static void main(String[] args) {
        everyShortTemplate();
        everyInsideOfAChoice();
        grownTemplates();
        Check.end();
    }

    private static int below(int n) {
        seed = seed * 6364136223846793005L + 1442695040888963407L;
        return (int) ((seed >>> 33) % n);
    }

    private static void everyShortTemplate() {
        every("", "", "a0#{}()?:=4", 5);
    }

    private static void everyInsideOfAChoice() {
        every("{1?x(", ")}", "x1#{}():=", 5);
    }

    private static void every(String before, String after, String alphabet, int longest) {
        List<String> inner = new ArrayList<>(List.of(""));
        for (int i = 0; i < inner.size(); i++) {
            String t = inner.get(i);
            compare(before + t + after, 0, 3, 5, 1, 0);
            for (int k = 0; t.length() < longest && k < alphabet.length(); k++) {
                inner.add(t + alphabet.charAt(k));
            }
        }
    }

    private static void grownTemplates() {
        for (int run = 0; run < 60000; run++) {
            String t = message(0, 1 + below(5));
            int changes = below(4) == 0 ? 1 + below(2) : 0;
            for (int k = 0; k < changes; k++) {
                t = changed(t);
            }
            t = t.length() > 96 ? t.substring(0, 96) : t;
            compare(t, run % 3, value(), value(), value(), value());
        }
    }

    private static int value() {
        return VALUES[below(VALUES.length)];
    }

    private static String message(int depth, int pieces) {
        StringBuilder t = new StringBuilder();
        for (int k = 0; k < pieces; k++) {
            int kind = below(10);
            if (kind < 3) {
                t.append("az09 ,.!-".charAt(below(9)));
            } else if (kind < 5) {
                t.append('#');
            } else if (kind < 7 || depth == 4) {
                t.append('{').append(below(4)).append('}');
            } else {
                t.append('{').append(below(4)).append(below(3) == 0 ? ':' : '?');
                int branches = 1 + below(4);
                for (int b = 0; b < branches; b++) {
                    t.append(below(4) == 0 ? "=" + below(10) : "" + "xoftmzabcdwy".charAt(below(12)));
                    t.append('(').append(message(depth + 1, below(3))).append(')');
                }
                t.append('}');
            }
        }
        return t.toString();
    }

    private static String changed(String t) {
        int at = below(t.length() + 1);
        String c = "" + "ax09#{}()?:= ".charAt(below(13));
        if (below(2) == 0 || at == t.length()) {
            return t.substring(0, at) + c + t.substring(at);
        }
        return t.substring(0, at) + (below(2) == 0 ? c : "") + t.substring(at + 1);
    }

    private static void compare(String template, int rules, int... values) {
        PluralMessages x = new PluralMessages(rules);
        for (int i = 0; i < template.length(); i++) {
            x.type(template.charAt(i));
        }
        Check.setAll(x, values);
        Model m = new Model(template, rules, values);
        String what = template + " by rules " + rules + " of " + java.util.Arrays.toString(values);
        Check.due("sound " + what, m.sound, x.sound());
        Check.due("named " + what, m.sound ? m.named : 0, x.named());
        int want = !m.sound ? PluralMessages.UNSOUND : m.text.length() > 120 ? PluralMessages.TOO_LONG : m.text.length();
        Check.due("format " + what, want, x.format());
        Check.due("output " + what, want < 0 ? "" : m.text, Check.output(x));
        Check.due("consulted " + what, want < 0 ? 0 : m.consulted, x.consulted());
    }

    /** Reads the grammar by recursive descent into a tree of pieces, and then formats the tree. */
    private static final class Model {
        private record Branch(String key, List<Object> message) { }

        private record Choice(int argument, boolean plural, List<Branch> branches) { }

        private record Number(int argument) { }

        private final String template;
        private final int rules;
        private final int[] values;
        private int at = 0;
        private boolean broken = false;
        final boolean sound;
        int named = 0;
        int consulted = 0;
        String text = "";

        Model(String template, int rules, int[] values) {
            this.template = template;
            this.rules = rules;
            this.values = values;
            List<Object> message = message(0);
            sound = !broken && at == template.length();
            if (sound) {
                text = formatted(message, -1);
            }
        }

        private char peek() {
            return at < template.length() ? template.charAt(at) : 0;
        }

        private char take(String allowed) {
            char c = peek();
            if (c == 0 || allowed.indexOf(c) < 0) {
                broken = true;
                return '0';
            }
            at++;
            return c;
        }

        private List<Object> message(int depth) {
            List<Object> pieces = new ArrayList<>();
            while (!broken && peek() != 0) {
                char c = peek();
                if (c == '{') {
                    pieces.add(braces(depth + 1));
                } else if ("abcdefghijklmnopqrstuvwxyz0123456789 ,.!-#".indexOf(c) >= 0) {
                    pieces.add(c);
                    at++;
                } else {
                    break;
                }
            }
            return pieces;
        }

        private Object braces(int depth) {
            take("{");
            broken |= depth > 4;
            int argument = take("0123") - '0';
            named |= 1 << argument;
            char kind = take("}?:");
            if (kind == '}') {
                return new Number(argument);
            }
            List<Branch> branches = new ArrayList<>();
            do {
                String key = "" + take("=abcdefghijklmnopqrstuvwxyz");
                key += key.equals("=") ? "" + take("0123456789") : "";
                take("(");
                List<Object> message = message(depth);
                take(")");
                branches.add(new Branch(key, message));
            } while (!broken && peek() != '}');
            take("}");
            return new Choice(argument, kind == '?', branches);
        }

        private String formatted(List<Object> message, int around) {
            StringBuilder t = new StringBuilder();
            for (Object piece : message) {
                if (piece instanceof Number n) {
                    t.append(looked(n.argument));
                } else if (piece instanceof Choice c) {
                    String value = looked(c.argument);
                    String letter = c.plural ? plural(value.replace("-", "")) : select(values[c.argument]);
                    for (Branch b : chosen(c.branches, "=" + value, letter)) {
                        t.append(formatted(b.message, c.plural ? c.argument : around));
                    }
                } else if (piece.equals('#') && around >= 0) {
                    t.append(looked(around));
                } else {
                    t.append(piece);
                }
            }
            return t.toString();
        }

        private String looked(int argument) {
            consulted |= 1 << argument;
            return String.valueOf(values[argument]);
        }

        private static List<Branch> chosen(List<Branch> branches, String... keys) {
            for (String key : List.of(keys[0], keys[1], "x")) {
                for (Branch b : branches) {
                    if (b.key.equals(key)) {
                        return List.of(b);
                    }
                }
            }
            return List.of();
        }

        private static String select(int value) {
            return value < 0 || value > 22 ? "x" : "abcdefghijklmnopqrstuvw".substring(value, value + 1);
        }

        private String plural(String digits) {
            if (rules == 0) {
                return digits.equals("1") ? "o" : "x";
            }
            if (rules == 1) {
                return digits.matches(".*1") && !digits.matches(".*11") ? "o"
                    : digits.matches(".*[234]") && !digits.matches(".*1[234]") ? "f" : "m";
            }
            int lastTwo = Integer.parseInt(digits.substring(Math.max(0, digits.length() - 2)));
            return digits.equals("0") ? "z" : digits.equals("1") ? "o" : digits.equals("2") ? "t"
                : lastTwo >= 3 && lastTwo <= 10 ? "f" : lastTwo >= 11 ? "m" : "x";
        }
    }
}
