import java.util.ArrayList;
import java.util.List;

/** Compares the class with a recursive model of the document, over many templates and values. */
public final class ModelTest {
    public static void main(String[] args) {
        everyShortTemplate();
        everyInsideOfAChoice();
        grownTemplates();
        Check.end();
    }

    private static void everyShortTemplate() {
        every("", "", "a0#{}()?:=4", 5);
    }

    private static void everyInsideOfAChoice() {
        every("{1?x(", ")}", "x1#{}():=", 5);
    }

    private static void every(String before, String after, String alphabet, int longest) {
        List<String> inner = new ArrayList<>(List.of(""));
        for (int i = 0; i < inner.size(); i++) {
            String t = inner.get(i);
            compare(before + t + after, 0, 3, 5, 1, 0);
            for (int k = 0; t.length() < longest && k < alphabet.length(); k++) {
                inner.add(t + alphabet.charAt(k));
            }
        }
    }

    private static void grownTemplates() {
        for (int run = 0; run < 60000; run++) {
            String t = Grown.message(0, 1 + Grown.below(5));
            int changes = Grown.below(4) == 0 ? 1 + Grown.below(2) : 0;
            for (int k = 0; k < changes; k++) {
                t = Grown.changed(t);
            }
            t = t.length() > 96 ? t.substring(0, 96) : t;
            compare(t, run % 3, Grown.value(), Grown.value(), Grown.value(), Grown.value());
        }
    }

    private static void compare(String template, int rules, int... values) {
        PluralMessages x = new PluralMessages(rules);
        for (int i = 0; i < template.length(); i++) {
            x.type(template.charAt(i));
        }
        Check.setAll(x, values);
        Model m = new Model(template, rules, values);
        String what = template + " by rules " + rules + " of " + java.util.Arrays.toString(values);
        Check.due("sound " + what, m.sound, x.sound());
        Check.due("named " + what, m.sound ? m.named : 0, x.named());
        int want = !m.sound ? PluralMessages.UNSOUND : m.text.length() > 120 ? PluralMessages.TOO_LONG : m.text.length();
        Check.due("format " + what, want, x.format());
        Check.due("output " + what, want < 0 ? "" : m.text, Check.output(x));
        Check.due("consulted " + what, want < 0 ? 0 : m.consulted, x.consulted());
    }
}
