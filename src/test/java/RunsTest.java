/** Long runs of mixed calls on one object, each answer compared with a state that is kept beside it. */
public final class RunsTest {
    private static final int RUNS = 1500;
    private static final int CALLS = 512;
    private static final String ALLOWED = "abcdefghijklmnopqrstuvwxyz0123456789 ,.!-#{}()?:=";
    private static final int[] RULES = {0, 1, 2, -1, 3, Integer.MIN_VALUE, Integer.MAX_VALUE};
    private static final int[] OUTSIDE = {-1, -4, 4, 8, 256, Integer.MIN_VALUE, Integer.MAX_VALUE};
    private static final int[] LONG_VALUES = {Integer.MIN_VALUE, Integer.MAX_VALUE, -1234567890, -123456789, 1234567890};
    // Pieces that write much, so that outputs come near to 120 characters and beyond.
    private static final String[] LONG_PIECES = {"{0}", "{1}", "{2}", "{3}", "{0?x(###)m(####)f(##)}", "{1:x({0}{2})a(#)}", "a"};

    // Each kind of format() must have come often, or the runs would show less than they say.
    private static int lengths = 0;
    private static int unsound = 0;
    private static int tooLong = 0;

    private final String name;
    private final int rules;
    private final PluralMessages x;
    private final int[] values = new int[4];
    private String template = "";
    private String output = "";
    private int consulted = 0;
    private String toType = "";

    private RunsTest(int run, int rules) {
        name = "run " + run + " by rules " + rules + ", ";
        this.rules = Math.min(2, Math.max(0, rules));
        x = new PluralMessages(rules);
    }

    public static void main(String[] args) {
        for (int run = 0; run < RUNS; run++) {
            RunsTest r = new RunsTest(run, RULES[run % RULES.length]);
            int before = Check.wrong();
            // Behind a wrong answer the two states may differ, and the rest of the run tells nothing.
            for (int call = 1; call <= CALLS && Check.wrong() == before; call++) {
                r.call(call);
            }
        }
        Check.due("many formats of each kind", true, Check.wrong() > 0 || Math.min(lengths, Math.min(unsound, tooLong)) > 400);
        Check.end();
    }

    private void call(int number) {
        String what = name + "call " + number + ", template " + template + ": ";
        if (!toType.isEmpty() && Grown.below(20) > 0) {
            type(what, toType.charAt(0));
            toType = toType.substring(1);
            return;
        }
        switch (Grown.below(16)) {
            case 0 -> type(what, (char) Grown.below(Grown.below(2) == 0 ? 128 : 65536));
            case 1 -> rub(what);
            case 2, 3 -> wipeForAnother(what);
            case 4 -> Check.due(what + "sound", model().sound, x.sound());
            case 5, 6, 7 -> set(what);
            case 8, 9, 10 -> format(what);
            case 11 -> Check.due(what + "length", output.length(), x.length());
            case 12 -> charAt(what);
            default -> sets(what);
        }
    }

    private Model model() {
        return new Model(template, rules, values);
    }

    private void type(String what, char c) {
        boolean full = template.length() == 96;
        boolean fits = ALLOWED.indexOf(c) >= 0;
        template += !full && fits ? "" + c : "";
        int want = full ? PluralMessages.FULL : fits ? template.length() : PluralMessages.BAD;
        Check.due(what + "type " + (int) c, want, x.type(c));
    }

    private void rub(String what) {
        boolean none = template.isEmpty();
        template = none ? "" : template.substring(0, template.length() - 1);
        Check.due(what + "rub", none ? PluralMessages.BAD : template.length(), x.rub());
    }

    private void wipeForAnother(String what) {
        Check.due(what + "wipe", template.length(), x.wipe());
        template = "";
        toType = Grown.below(2) == 0 ? Grown.message(0, 1 + Grown.below(5)) : manyPieces();
        toType = Grown.below(6) == 0 ? Grown.changed(toType) : toType;
    }

    private static String manyPieces() {
        String t = "";
        String longer = t;
        for (int k = 8 + Grown.below(24); k > 0 && longer.length() <= 96; k--) {
            t = longer;
            longer += LONG_PIECES[Grown.below(LONG_PIECES.length)];
        }
        return t;
    }

    private void set(String what) {
        boolean outside = Grown.below(5) == 0;
        int i = outside ? OUTSIDE[Grown.below(OUTSIDE.length)] : Grown.below(4);
        int value = Grown.below(4) == 0 ? Grown.value() : LONG_VALUES[Grown.below(LONG_VALUES.length)];
        if (!outside) {
            values[i] = value;
        }
        Check.due(what + "set " + i, !outside, x.set(i, value));
    }

    private void format(String what) {
        Model m = model();
        int want = m.text.length();
        if (!m.sound) {
            want = PluralMessages.UNSOUND;
            unsound++;
        } else if (want > 120) {
            want = PluralMessages.TOO_LONG;
            output = "";
            tooLong++;
        } else {
            output = m.text;
            consulted = m.consulted;
            lengths++;
        }
        Check.due(what + "format", want, x.format());
    }

    private void charAt(String what) {
        int i = Grown.below(8) == 0 ? OUTSIDE[Grown.below(OUTSIDE.length)] : Grown.below(output.length() + 2);
        int want = i >= 0 && i < output.length() ? output.charAt(i) : PluralMessages.BAD;
        Check.due(what + "charAt " + i, want, x.charAt(i));
    }

    private void sets(String what) {
        if (Grown.below(2) == 0) {
            Model m = model();
            Check.due(what + "named", m.sound ? m.named : 0, x.named());
        } else {
            Check.due(what + "consulted", consulted, x.consulted());
        }
    }
}
