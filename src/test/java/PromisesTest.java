/** One method for each promise: ordinary inputs, the edges that the document names, and wrong inputs. */
public final class PromisesTest {
    private static final int LEAST = Integer.MIN_VALUE;
    private static final int GREATEST = Integer.MAX_VALUE;

    public static void main(String[] args) {
        promise1NewObject();
        promise2Type();
        promise3Rub();
        promise4Wipe();
        promise5Sound();
        promise6Set();
        promise7Format();
        promise7Hash();
        promise7BranchOrder();
        promise7SelectLetters();
        promise7Rules();
        promise7Unsound();
        promise7TooLong();
        promise8Length();
        promise9CharAt();
        promise10Named();
        promise11Consulted();
        promise11NotTouched();
        Check.end();
    }

    private static void promise1NewObject() {
        int[] rules = {LEAST, -1, 0, 1, 2, 3, GREATEST};
        for (int r : rules) {
            String what = "new object, rules " + r;
            PluralMessages x = new PluralMessages(r);
            Check.due(what + " length", 0, x.length());
            Check.due(what + " charAt", PluralMessages.BAD, x.charAt(0));
            Check.due(what + " consulted", 0, x.consulted());
            Check.due(what + " named", 0, x.named());
            Check.due(what + " sound", true, x.sound());
            Check.due(what + " rub", PluralMessages.BAD, x.rub());
            Check.due(what + " wipe", 0, x.wipe());
            Check.due(what + " format", 0, x.format());
            formats(x, "{0}{1}{2}{3}", "0000");
            // The letter of 2 tells the three rules apart.
            formats(r, "{0?x(x)f(f)t(t)}", r < 1 ? "x" : r == 1 ? "f" : "t", 2);
        }
    }

    private static void promise2Type() {
        String allowed = "abcdefghijklmnopqrstuvwxyz0123456789 ,.!-#{}()?:=";
        for (int c = 0; c <= Character.MAX_VALUE; c++) {
            PluralMessages y = new PluralMessages(0);
            boolean fits = allowed.indexOf((char) c) >= 0;
            Check.due("type(" + c + ")", fits ? 1 : PluralMessages.BAD, y.type((char) c));
            Check.due("type(" + c + ") keeps", fits ? 1 : 0, y.wipe());
        }
        PluralMessages x = new PluralMessages(0);
        for (int i = 1; i <= 96; i++) {
            Check.due("type " + i, i, x.type((char) ('a' + i % 26)));
        }
        Check.due("type when full", PluralMessages.FULL, x.type('a'));
        Check.due("a bad one when full", PluralMessages.FULL, x.type('A'));
        Check.due("full template formats", 96, x.format());
        Check.due("first character", (int) 'b', x.charAt(0));
        Check.due("last character", (int) 'a' + 96 % 26, x.charAt(95));
        Check.due("rub when full", 95, x.rub());
        Check.due("a bad one before full", PluralMessages.BAD, x.type('A'));
        Check.due("type again", 96, x.type('z'));
        Check.due("typing leaves the output", 96, x.length());
    }

    private static void promise3Rub() {
        PluralMessages x = Check.typed(0, "ab{");
        Check.due("rub", 2, x.rub());
        Check.due("format after rub", 2, x.format());
        Check.due("rub", 1, x.rub());
        Check.due("rub leaves the output", "ab", Check.output(x));
        Check.due("type after rub", 2, x.type('c'));
        x.format();
        Check.due("rubbed away", "ac", Check.output(x));
        Check.due("rub", 1, x.rub());
        Check.due("rub", 0, x.rub());
        Check.due("rub of nothing", PluralMessages.BAD, x.rub());
        Check.due("rub of nothing again", PluralMessages.BAD, x.rub());
        Check.due("type after rub", 1, x.type('q'));
    }

    private static void promise4Wipe() {
        PluralMessages x = Check.typed(0, "a{1}b");
        x.set(1, 7);
        x.format();
        Check.due("wipe", 5, x.wipe());
        Check.due("wipe leaves the output", "a7b", Check.output(x));
        Check.due("wipe leaves consulted", 2, x.consulted());
        Check.due("wipe of nothing", 0, x.wipe());
        Check.due("named after wipe", 0, x.named());
        Check.due("format after wipe", 0, x.format());
        formats(x, "{1}", "7");
    }

    private static void promise5Sound() {
        String[] good = {
            "", "a", "z", "0", "9", " ", ",", ".", "!", "-", "#", "##a#", "{0}", "{1}", "{2}", "{3}", "{0}{0}",
            "{0?x()}", "{0:x()}", "{0?=0()}", "{0:=9()}", "{3?a()b()}", "{0?=1()=1()x()x()}", "{0?x(#{1})o()}",
            "{0?x({1?x({2?x({3})})})}", "{0?x({1:x({2?x({3:x(a)})})})}", "{0?x({1?x({2?x({3}{3})})a({2})})}{0}",
            "{0}{1}{2}{3}{0}", "{0:a({1})b({2})}", "{0?x(0 1,2.3!4-5)}",
        };
        for (String t : good) {
            Check.due("sound " + t, true, Check.typed(0, t).sound());
        }
        String[] bad = {
            "{", "}", "(", ")", "?", ":", "=", "{}", "{4}", "{9}", "{a}", "{0", "{ 0}", "{0 }", "{00}", "{0}}", "{{0}}",
            "{0?}", "{0:}", "{0?x}", "{0?x(}", "{0?x()", "{0?()}", "{0?=()}", "{0?=a()}", "{0?=10()}", "{0?==()}",
            "{0?1()}", "{0?xy()}", "{0? x()}", "{0?x ()}", "{0?x() }", "{0?x() o()}", "{0?-()}", "{0?#()}",
            "{0?x()x}", "{0?x()=}", "{0?x()=1}", "{0?x()=1(}", "{0?x())}", "{0?x(()}", "{0?x(())}", "{0?x(()))}",
            "{0?x(a}b)}", "{0?x({1)}}", "{0?x(})", "{0?x(?)}", "{0?x(:)}", "{0?x(=)}", "{0?x(=1)}", "{0?:x()}", "{0:?x()}",
            "{0?x()?o()}", "{0#}", "{#}", "{-1}", "a)", "a(b)", "{0})", "{0?x()})", "{0?x({1)})}", "{0?{1}()}",
            "{0?x({1?x({2?x({3?x({0})})})})}", "{0:x({1:x({2:x({3:x({0:x()})})})})}", "{0?x({1?x({2?x({3?x({", "{{{{{",
        };
        for (String t : bad) {
            PluralMessages x = Check.typed(0, t);
            Check.due("sound " + t, false, x.sound());
            Check.due("format " + t, PluralMessages.UNSOUND, x.format());
            Check.due("named " + t, 0, x.named());
        }
    }

    private static void promise6Set() {
        PluralMessages x = Check.typed(0, "{0} {1} {2} {3}");
        Check.setAll(x, 1, -22, GREATEST, LEAST);
        for (int i : new int[] {LEAST, -4, -1, 4, 5, 8, GREATEST}) {
            Check.due("set(" + i + ")", false, x.set(i, 77));
        }
        x.format();
        Check.due("values", "1 -22 2147483647 -2147483648", Check.output(x));
        x.set(2, 0);
        Check.due("set leaves the output", "1 -22 2147483647 -2147483648", Check.output(x));
        x.format();
        Check.due("set again", "1 -22 0 -2147483648", Check.output(x));
    }

    private static void promise7Format() {
        formats(0, "", "");
        formats(0, "az 09,.!-", "az 09,.!-");
        int[] numbers = {0, 1, -1, 9, 10, -10, 99, 100, 101, 1000, 10203, -70000, 999999999, 1000000000, -1000000001,
            GREATEST, LEAST, LEAST + 1};
        for (int n : numbers) {
            formats(0, "{2}", "" + n, 0, 0, n);
            formats(0, "a{2}b{2?x(#)o(#)}", "a" + n + "b" + n, 0, 0, n);
        }
        formats(0, "{3}{2}{1}{0}", "4321", 1, 2, 3, 4);
        formats(0, "a{0:q(b)}c", "ac", 1);
        formats(0, "a{0:b(b)}c", "abc", 1);
        formats(0, "a{0:b()}c", "ac", 1);
        formats(0, "{0:b({1:c({2:d({3:e(deep)}.)},)}!)}-", "deep.,!-", 1, 2, 3, 4);
        formats(0, "{0:a(no {1} {2:x(no)})b(yes {2:x(no)d({3})})x(no)} end", "yes 4 end", 1, 2, 3, 4);
        formats(0, "{0?o(a)}{1?x(b)}{1?o(c)}", "ab", 1, 2);
    }

    private static void promise7Hash() {
        formats(0, "#", "#", 10, 20, 30, 40);
        formats(0, "{0:x(#)}", "#", 10, 20, 30, 40);
        formats(0, "#{0?x(#)}#", "#10#", 10, 20, 30, 40);
        formats(0, "{0?x(#{1?x(#{2?x(#{3?x(#)}#)}#)}#)}#", "10203040302010#", 10, 20, 30, 40);
        formats(0, "{0?x({1:x(#)u(#)}#)}", "1010", 10, 20, 30, 40);
        formats(0, "{0:k({1?x({2:x(#)}#)}#)}", "2020#", 10, 20, 30, 40);
        formats(0, "{0?x({1:q({2?x(#)})}#)}", "10", 10, 20, 30, 40);
        formats(0, "{0?x({1})x(#)}{1?=1()x(#)}", "2020", 10, 20, 30, 40);
        formats(0, "{3?x(#)}", "-5", 10, 20, 30, -5);
    }

    private static void promise7BranchOrder() {
        formats(0, "{0?x(x)o(o)=1(1)}", "1", 1);
        formats(0, "{0?=1(1)o(o)x(x)}", "1", 1);
        formats(0, "{0?x(x)o(o)}", "o", 1);
        formats(0, "{0?x(x)=2(2)}", "x", 1);
        formats(0, "{0?=2(2)f(f)}", "", 1);
        formats(0, "{0?=1(a)=1(b)}", "a", 1);
        formats(0, "{0?o(a)o(b)}", "a", 1);
        formats(0, "{0?x(a)x(b)}", "a", 1);
        formats(0, "{0?=0(0)=1()x(x)}", "", 1);
        formats(0, "{0?o()x(x)}", "", 1);
        formats(0, "{0:x(x)b(b)=1(1)}", "1", 1);
        formats(0, "{0:x(x)b(b)a(a)}", "b", 1);
        formats(0, "{0:x(x)o(o)}", "x", 1);
        formats(0, "{0?=1(1)o(o)x(x)}", "o", -1);
        formats(0, "{0:=1(1)b(b)x(x)}", "x", -1);
        formats(0, "{0?x(x)=0(0)}", "0", 0);
        for (int v = -9; v <= 19; v++) {
            String want = v >= 0 && v <= 9 ? "" + (char) ('a' + v) : "x";
            formats(2, "{0?x(x)o(x)t(x)f(x)m(x)=0(a)=1(b)=2(c)=3(d)=4(e)=5(f)=6(g)=7(h)=8(i)=9(j)}", want, v);
        }
    }

    private static void promise7SelectLetters() {
        for (int v = -30; v <= 60; v++) {
            char due = v >= 0 && v <= 22 ? (char) ('a' + v) : 'x';
            for (char key = 'a'; key <= 'z'; key++) {
                String want = key == due || key == 'x' ? "q" : "";
                formats(v, "{1:" + key + "(q)}", want, 0, v);
            }
        }
        for (int v : new int[] {LEAST, LEAST + 1, GREATEST, 256, 1 << 16, 23, 24, 25, 26, -1}) {
            formats(0, "{1:a(a)w(w)y(y)z(z)x(x)}", "x", 0, v);
        }
    }

    private static void promise7Rules() {
        rule(0, 'o', 1, -1);
        rule(0, 'x', 0, 2, 11, 21, 101, -2, LEAST, GREATEST);
        rule(1, 'o', 1, -1, 21, 31, 91, 101, -121, 1001, 2147483641);
        rule(1, 'f', 2, 3, 4, -2, -3, -4, 22, 23, 24, 34, 102, 103, 104, 122, 1002, 2147483643);
        rule(1, 'm', 0, 5, 6, 7, 8, 9, 10, 11, 12, 13, 14, 15, 19, 20, 25, 30, 111, 112, 113, 114, -11, -12, 100,
            211, 1011, 1012, GREATEST, LEAST);
        rule(2, 'z', 0);
        rule(2, 'o', 1, -1);
        rule(2, 't', 2, -2);
        rule(2, 'f', 3, 4, 9, 10, -3, -10, 103, 110, 1003, 2147483610);
        rule(2, 'm', 11, 12, 50, 98, 99, -11, -99, 111, 199, 1011, GREATEST, LEAST);
        rule(2, 'x', 100, 101, 102, 200, 201, 202, 1000, -100, -101, -102, 2147483602);
    }

    private static void rule(int rules, char letter, int... values) {
        for (int v : values) {
            formats(rules, "{0?z(z)o(o)t(t)f(f)m(m)a(a)b(b)x(x)}", "" + letter, v);
        }
    }

    private static void promise7Unsound() {
        PluralMessages x = Check.typed(0, "a{2}");
        x.set(2, 5);
        Check.due("format", 2, x.format());
        x.type('{');
        x.set(2, 6);
        Check.due("unsound", PluralMessages.UNSOUND, x.format());
        Check.due("output stays", "a5", Check.output(x));
        Check.due("consulted stays", 4, x.consulted());
        Check.due("template stays", 4, x.rub());
        Check.due("format", 2, x.format());
        Check.due("value stays", "a6", Check.output(x));
    }

    private static void promise7TooLong() {
        PluralMessages x = Check.typed(0, "{0}{0}{0}{0}{0}{0}{0}{0}{0}{0}{1}");
        Check.setAll(x, LEAST, 1234567890);
        Check.due("120 characters", 120, x.format());
        Check.due("length", 120, x.length());
        Check.due("the last", (int) '0', x.charAt(119));
        Check.due("behind the last", PluralMessages.BAD, x.charAt(120));
        Check.due("consulted", 3, x.consulted());
        x.set(1, -1234567890);
        Check.due("121 characters", PluralMessages.TOO_LONG, x.format());
        Check.due("length", 0, x.length());
        Check.due("no character", PluralMessages.BAD, x.charAt(0));
        x.set(1, 7);
        Check.due("template and values stay", 111, x.format());

        x = Check.typed(0, "{0}{0}{0}{0}{0}{0}{0}{0}{0}{0}abcdefghij");
        Check.setAll(x, LEAST, 7);
        Check.due("120 characters", 120, x.format());
        x.type('k');
        Check.due("one plain one more", PluralMessages.TOO_LONG, x.format());
        x.type('{');
        Check.due("unsound is looked at first", PluralMessages.UNSOUND, x.format());
        Check.retype(x, "{0}".repeat(32));
        Check.due("352 characters", PluralMessages.TOO_LONG, x.format());
        Check.due("length", 0, x.length());
        Check.retype(x, "{0?x(" + "#".repeat(80) + ")}");
        Check.due("880 characters", PluralMessages.TOO_LONG, x.format());
        formats(x, "ok", "ok");
        Check.retype(x, "{1?q(" + "{0}".repeat(20) + ")x(a)}");
        Check.due("a branch not chosen has no length", 1, x.format());
    }

    private static void promise8Length() {
        PluralMessages x = new PluralMessages(0);
        Check.due("length", 0, x.length());
        Check.retype(x, "abc");
        Check.due("typing is not output", 0, x.length());
        x.format();
        Check.due("length", 3, x.length());
        x.rub();
        Check.due("length", 3, x.length());
        x.format();
        Check.due("length", 2, x.length());
        x.wipe();
        x.format();
        Check.due("length", 0, x.length());
    }

    private static void promise9CharAt() {
        PluralMessages x = Check.typed(0, "ab c");
        x.format();
        int[] want = {97, 98, 32, 99};
        for (int i = 0; i < want.length; i++) {
            Check.due("charAt(" + i + ")", want[i], x.charAt(i));
        }
        for (int i : new int[] {LEAST, -1, 4, 5, 119, 120, 121, GREATEST}) {
            Check.due("charAt(" + i + ")", PluralMessages.BAD, x.charAt(i));
        }
        x.rub();
        x.format();
        Check.due("charAt behind a shorter output", PluralMessages.BAD, x.charAt(3));
    }

    private static void promise10Named() {
        String[] templates = {"", "0123", "#", "{0}", "{1}", "{2}", "{3}", "{0}{3}", "{1?=0(3)x(2)}", "{0:z({1:z({2:z({3})})})}",
            "{0?q({2})}", "{3}{3}{3}", "{2:=3(#)}"};
        int[] want = {0, 0, 0, 1, 2, 4, 8, 9, 2, 15, 5, 8, 4};
        for (int i = 0; i < templates.length; i++) {
            PluralMessages x = Check.typed(1, templates[i]);
            Check.due("named " + templates[i], want[i], x.named());
            x.type('}');
            Check.due("named unsound " + templates[i], 0, x.named());
            Check.due("named leaves consulted", 0, x.consulted());
        }
    }

    private static void promise11Consulted() {
        PluralMessages x = new PluralMessages(0);
        Check.setAll(x, 5, 5, 5, 5);
        consults(x, "abc#", 0);
        consults(x, "{0}", 1);
        consults(x, "{3}{1}", 10);
        consults(x, "{2?x(a)}", 4);
        consults(x, "{2:x(a)}", 4);
        consults(x, "{2?=1(a)}", 4);
        consults(x, "{2:a({0})}", 4);
        consults(x, "{2:a({0})x({1})}", 6);
        consults(x, "{1?x({2:a({3})f({0?q()})})}", 7);
        consults(x, "{0?x({1:f(#)})}", 3);
        consults(x, "{0?o({1}{2?x()})x()}", 1);
        consults(x, "", 0);
    }

    private static void promise11NotTouched() {
        PluralMessages x = new PluralMessages(0);
        Check.due("before any", 0, x.consulted());
        Check.retype(x, "{0");
        x.format();
        Check.due("after an unsound one", 0, x.consulted());
        Check.retype(x, "{0}".repeat(32));
        x.set(0, LEAST);
        Check.due("too long", PluralMessages.TOO_LONG, x.format());
        Check.due("after a too long one", 0, x.consulted());
        consults(x, "{1}", 2);
        Check.retype(x, "{0}".repeat(32));
        Check.due("too long", PluralMessages.TOO_LONG, x.format());
        Check.due("the latest that answered a length", 2, x.consulted());
        Check.retype(x, "{0");
        Check.due("unsound", PluralMessages.UNSOUND, x.format());
        Check.due("the latest that answered a length", 2, x.consulted());
    }

    // A new object for each template, since an object is good for 512 calls only.
    private static void formats(int rules, String template, String want, int... values) {
        PluralMessages x = new PluralMessages(rules);
        Check.setAll(x, values);
        formats(x, template, want);
    }

    private static void formats(PluralMessages x, String template, String want) {
        Check.retype(x, template);
        Check.due("format " + template, want.length(), x.format());
        Check.due("output of " + template, want, Check.output(x));
        Check.due("length of " + template, want.length(), x.length());
    }

    private static void consults(PluralMessages x, String template, int want) {
        Check.retype(x, template);
        Check.due("format answers a length: " + template, true, x.format() >= 0);
        Check.due("consulted " + template, want, x.consulted());
    }
}
