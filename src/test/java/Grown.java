/** Templates and values by a fixed sequence, so that every run of a test sees the same ones. */
final class Grown {
    private static final int[] VALUES = {0, 1, 2, 3, 4, 5, 9, 10, 11, 12, 14, 15, 21, 22, 23, 24, 25, 99, 100, 101, 102,
        103, 110, 111, 112, 1000, -1, -2, -3, -11, -21, 2147483647, -2147483648, -2147483647};

    private static long seed = 20261115L;

    static int below(int n) {
        seed = seed * 6364136223846793005L + 1442695040888963407L;
        return (int) ((seed >>> 33) % n);
    }

    static int value() {
        return VALUES[below(VALUES.length)];
    }

    static String message(int depth, int pieces) {
        StringBuilder t = new StringBuilder();
        for (int k = 0; k < pieces; k++) {
            int kind = below(10);
            if (kind < 3) {
                t.append("az09 ,.!-".charAt(below(9)));
            } else if (kind < 5) {
                t.append('#');
            } else if (kind < 7 || depth == 4) {
                t.append('{').append(below(4)).append('}');
            } else {
                t.append('{').append(below(4)).append(below(3) == 0 ? ':' : '?');
                int branches = 1 + below(4);
                for (int b = 0; b < branches; b++) {
                    t.append(below(4) == 0 ? "=" + below(10) : "" + "xoftmzabcdwy".charAt(below(12)));
                    t.append('(').append(message(depth + 1, below(3))).append(')');
                }
                t.append('}');
            }
        }
        return t.toString();
    }

    static String changed(String t) {
        int at = below(t.length() + 1);
        String c = "" + "ax09#{}()?:= ".charAt(below(13));
        if (below(2) == 0 || at == t.length()) {
            return t.substring(0, at) + c + t.substring(at);
        }
        return t.substring(0, at) + (below(2) == 0 ? c : "") + t.substring(at + 1);
    }
}
