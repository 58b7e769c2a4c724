/** Counts and prints the answers that are not the ones that are due. */
final class Check {
    private static int wrong = 0;
    private static String sentence = "";

    /** Names the promise, and quotes its sentence, that the answers after this belong to. */
    static void promise(int number, String quoted) {
        sentence = "promise " + number + ", \"" + quoted + "\": ";
    }

    static void due(String what, Object want, Object got) {
        if (!want.equals(got)) {
            wrong++;
            System.out.println(sentence + what + ": answered <" + got + ">, due is <" + want + ">");
        }
    }

    static int wrong() {
        return wrong;
    }

    static void end() {
        System.out.println(wrong == 0 ? "all answers are as due" : wrong + " answers are not as due");
        if (wrong != 0) {
            System.exit(1);
        }
    }

    static PluralMessages typed(int rules, String template) {
        PluralMessages x = new PluralMessages(rules);
        retype(x, template);
        return x;
    }

    static void retype(PluralMessages x, String template) {
        x.wipe();
        for (int i = 0; i < template.length(); i++) {
            due("type character " + i + " of " + template, i + 1, x.type(template.charAt(i)));
        }
    }

    static void setAll(PluralMessages x, int... values) {
        for (int i = 0; i < values.length; i++) {
            due("set(" + i + ")", true, x.set(i, values[i]));
        }
    }

    static String output(PluralMessages x) {
        StringBuilder text = new StringBuilder();
        for (int i = 0; i < x.length(); i++) {
            text.append((char) x.charAt(i));
        }
        return text.toString();
    }
}
