/** One method for each sentence of the document that names a boundary case; each says its promise and quotes the sentence. */
public final class BoundaryTest {
    private static final int LEAST = Integer.MIN_VALUE;
    private static final int GREATEST = Integer.MAX_VALUE;
    private static final int FULL = PluralMessages.FULL;
    private static final int BAD = PluralMessages.BAD;
    private static final int UNSOUND = PluralMessages.UNSOUND;
    private static final int TOO_LONG = PluralMessages.TOO_LONG;

    public static void main(String[] args) {
        promise1();
        promise2();
        promise3And4();
        promise5();
        promise6();
        promise7Values();
        promise7Choices();
        promise7Rules();
        promise7Refusals();
        promise8And9();
        promise10();
        promise11();
        Check.end();
    }

    private static void promise1() {
        rulesTooSmall();
        rulesTooLarge();
        rulesInside();
        newTemplateIsEmpty();
        newArgumentsAreZero();
        newOutputIsEmpty();
        allOf512CallsCount();
    }

    private static void promise2() {
        typeToTheLastPlace();
        typeWhenFull();
        fullIsTestedBeforeBad();
        typeOfNoCharacterOfTheGrammar();
        refusedTypeChangesNothing();
        typeAnswersTheNewNumber();
    }

    private static void promise3And4() {
        rubToNothing();
        rubOfNothing();
        rubOfAFullTemplate();
        wipeOfNothing();
        wipeOfAFullTemplate();
    }

    private static void promise5() {
        emptyMessageIsSound();
        fullTemplateIsSound();
        argumentsOutsideTheFour();
        choiceWithoutBranch();
        keyOfNoneOrTwo();
        keysAtTheEnds();
        blanksInBraces();
        fourBracesOpen();
        fiveBracesOpen();
        closedBracesAreNotOpen();
        templateThatEndsTooEarly();
        closersThatCloseNothing();
        soundChangesNothing();
    }

    private static void promise6() {
        setOutside();
        setRefusedChangesNothing();
        setAtTheEnds();
    }

    private static void promise7Values() {
        zeroIsOneDigit();
        negativeValues();
        noLeadingZeros();
        greatestAndLeastValue();
        hashInNoChoice();
        hashInTheInnermostPluralChoice();
        hashAfterAChoice();
    }

    private static void promise7Choices() {
        digitKeyIsTheWholeValue();
        digitKeyBeforeLetterBeforeX();
        noBranchWritesNothing();
        emptyBranchIsABranch();
        sameKeyTwice();
        selectLettersAtTheEnds();
        anyLetterAsKey();
    }

    private static void promise7Rules() {
        rulesZero();
        rulesOneEndsWithOne();
        rulesOneEndsWithTwoToFour();
        rulesOneElse();
        rulesTwoSmall();
        rulesTwoFew();
        rulesTwoMany();
        rulesTwoElse();
        leastValueWithoutItsSign();
    }

    private static void promise7Refusals() {
        unsoundChangesNothing();
        unsoundBeforeTooLong();
        outputOf120();
        outputOf121();
        outputFarTooLong();
        onlyTheResultIsCounted();
        tooLongKeepsTheRest();
        formatOfAnEmptyTemplate();
        formatReplacesTheOutput();
    }

    private static void promise8And9() {
        lengthAtTheEnds();
        lengthOfTheOutputAlone();
        charAtTheEnds();
        charOutside();
        charOfAnEmptyOutput();
        charBehindAShorterOutput();
    }

    private static void promise10() {
        namedOfNone();
        namedAnywhere();
        namedByNothingElse();
        namedOfAnUnsoundTemplate();
    }

    private static void promise11() {
        consultedBeforeAny();
        consultedAfterRefusedFormats();
        consultedOfTheLatestAlone();
        consultedByNumber();
        consultedByHash();
        consultedByChoices();
        consultedNotInOtherBranches();
        consultedStays();
    }

    // Promise 1

    private static void rulesTooSmall() {
        Check.promise(1, "rules is clamped into 0..2: too small");
        for (int rules : new int[] {-1, -2, -3, LEAST, LEAST + 1, LEAST + 2, -256}) {
            rulesAre(0, rules);
        }
    }

    private static void rulesTooLarge() {
        Check.promise(1, "rules is clamped into 0..2: too large");
        for (int rules : new int[] {3, 4, 5, GREATEST, 256, 257, 65536}) {
            rulesAre(2, rules);
        }
    }

    private static void rulesInside() {
        Check.promise(1, "rules is clamped into 0..2: inside");
        for (int rules = 0; rules <= 2; rules++) {
            rulesAre(rules, rules);
        }
    }

    // The letter of 2 is another one by each of the rules.
    private static void rulesAre(int want, int given) {
        formats(given, "{0?x(0)f(1)t(2)}", "" + want, 2);
    }

    private static void newTemplateIsEmpty() {
        Check.promise(1, "An empty template");
        Check.due("rub", BAD, new PluralMessages(0).rub());
        Check.due("wipe", 0, new PluralMessages(0).wipe());
        Check.due("sound", true, new PluralMessages(0).sound());
        Check.due("named", 0, new PluralMessages(0).named());
        Check.due("format", 0, new PluralMessages(0).format());
        Check.due("type", 1, new PluralMessages(0).type('a'));
    }

    private static void newArgumentsAreZero() {
        Check.promise(1, "all arguments 0");
        PluralMessages x = Check.typed(0, "{0}{1}{2}{3}");
        x.format();
        Check.due("values", "0000", Check.output(x));
    }

    private static void newOutputIsEmpty() {
        Check.promise(1, "an empty output");
        Check.due("length", 0, new PluralMessages(0).length());
        Check.due("charAt(0)", BAD, new PluralMessages(0).charAt(0));
        Check.due("charAt(-1)", BAD, new PluralMessages(0).charAt(-1));
    }

    private static void allOf512CallsCount() {
        Check.promise(1, "An object is used for at most 512 calls");
        PluralMessages x = new PluralMessages(1);
        int calls = 0;
        while (calls < 500) {
            Check.due("call " + (calls + 1), 1, x.type('a'));
            Check.due("call " + (calls + 2), 0, x.rub());
            calls += 2;
        }
        String template = "{3}{1?f()}";
        for (int i = 0; i < template.length(); i++) {
            x.type(template.charAt(i));
        }
        Check.due("call 511", 1, x.format());
        Check.due("call 512", 10, x.consulted());
    }

    // Promise 2

    private static void typeToTheLastPlace() {
        Check.promise(2, "Adds a character at the end of the template: the 96th");
        PluralMessages x = typed(95);
        Check.due("type", 96, x.type('z'));
        Check.due("format", 96, x.format());
        Check.due("the one before", (int) 'a', x.charAt(94));
        Check.due("the 96th", (int) 'z', x.charAt(95));
    }

    private static void typeWhenFull() {
        Check.promise(2, "96 characters are there: FULL");
        PluralMessages x = typed(96);
        for (char c : "az09 ,.!-#{}()?:=".toCharArray()) {
            Check.due("type " + c, FULL, x.type(c));
        }
        Check.due("number of characters", 96, x.wipe());
    }

    private static void fullIsTestedBeforeBad() {
        Check.promise(2, "Tested in this order");
        PluralMessages x = typed(95);
        Check.due("a bad one at 95", BAD, x.type('A'));
        Check.due("type", 96, x.type('b'));
        for (int c : new int[] {'A', 0, '\n', 0xffff}) {
            Check.due("character " + c + " at 96", FULL, x.type((char) c));
        }
        Check.due("rub", 95, x.rub());
        Check.due("a bad one at 95 again", BAD, x.type('A'));
    }

    private static void typeOfNoCharacterOfTheGrammar() {
        Check.promise(2, "the character is none of the grammar's: BAD");
        String bad = "ABYZ\t\n\r\0_;/+*\"'$%&@[]\\^`|~<>\u007f\u00a0\u00df\u0660\uff11\uffff";
        for (char c : bad.toCharArray()) {
            Check.due("character " + (int) c, BAD, new PluralMessages(0).type(c));
        }
        // A grammar's character with one more high bit isn't that character.
        for (char c : "az09 ,.!-#{}()?:=".toCharArray()) {
            for (int bit = 7; bit < 16; bit++) {
                char high = (char) (c | 1 << bit);
                Check.due("character " + (int) high, BAD, new PluralMessages(0).type(high));
            }
        }
        for (char c : "abyz0189 ,.!-#{}()?:=".toCharArray()) {
            Check.due("character " + (int) c, 1, new PluralMessages(0).type(c));
        }
    }

    private static void refusedTypeChangesNothing() {
        Check.promise(2, "96 characters are there: FULL; .. BAD: a refused call");
        PluralMessages x = Check.typed(0, "a{1}");
        x.set(1, 5);
        x.format();
        Check.due("bad", BAD, x.type('Q'));
        keeps(x, "a5", 2);
        Check.due("named", 2, x.named());
        Check.due("the next one", 5, x.type('b'));
        formatsAs(x, "a5b");

        x = Check.typed(0, "{1}".repeat(32));
        x.set(1, 7);
        x.format();
        Check.due("full", FULL, x.type('q'));
        keeps(x, "7".repeat(32), 2);
        Check.due("sound", true, x.sound());
        Check.due("format", 32, x.format());
        Check.due("the last one is still there", 95, x.rub());
        Check.due("sound without it", false, x.sound());
    }

    private static void typeAnswersTheNewNumber() {
        Check.promise(2, "Else answers the new number of characters");
        PluralMessages x = new PluralMessages(0);
        for (int n = 1; n <= 96; n++) {
            Check.due("type", n, x.type('{'));
        }
    }

    // Promises 3 and 4

    private static void rubToNothing() {
        Check.promise(3, "answers the new number of characters: 0");
        PluralMessages x = Check.typed(0, "{");
        Check.due("rub", 0, x.rub());
        Check.due("sound", true, x.sound());
        Check.due("wipe", 0, x.wipe());
    }

    private static void rubOfNothing() {
        Check.promise(3, "BAD if there was none");
        PluralMessages x = Check.typed(0, "{2}");
        x.set(2, -4);
        x.format();
        for (int n = 2; n >= 0; n--) {
            Check.due("rub", n, x.rub());
        }
        Check.due("rub", BAD, x.rub());
        Check.due("rub again", BAD, x.rub());
        keeps(x, "-4", 4);
        Check.due("wipe", 0, x.wipe());
        Check.due("rub after wipe", BAD, x.rub());
        Check.due("type", 1, x.type('b'));
        formatsAs(x, "b");
    }

    private static void rubOfAFullTemplate() {
        Check.promise(3, "Takes the last character of the template away: the 96th");
        PluralMessages x = typed(96);
        Check.due("full", FULL, x.type('b'));
        Check.due("rub", 95, x.rub());
        Check.due("type", 96, x.type('c'));
        Check.due("full", FULL, x.type('d'));
        Check.due("format", 96, x.format());
        Check.due("the 95th", (int) 'a', x.charAt(94));
        Check.due("the 96th", (int) 'c', x.charAt(95));
    }

    private static void wipeOfNothing() {
        Check.promise(4, "answers how many characters it had: 0");
        PluralMessages x = Check.typed(0, "a");
        x.format();
        Check.due("wipe", 1, x.wipe());
        Check.due("wipe again", 0, x.wipe());
        Check.due("wipe again", 0, x.wipe());
        keeps(x, "a", 0);
    }

    private static void wipeOfAFullTemplate() {
        Check.promise(4, "answers how many characters it had: 96");
        PluralMessages x = typed(96);
        x.type('b');
        Check.due("wipe", 96, x.wipe());
        Check.due("sound", true, x.sound());
        Check.due("format", 0, x.format());
        Check.due("type", 1, x.type('c'));
        formatsAs(x, "c");
        Check.due("wipe of one", 1, x.wipe());
    }

    // Promise 5

    private static void emptyMessageIsSound() {
        Check.promise(5, "message = { piece }: no piece");
        sound(true, "", "{0?x()}", "{0:x()}", "{0?=0()=1()o()x()}");
    }

    private static void fullTemplateIsSound() {
        Check.promise(5, "a text of up to 96 characters");
        String inside = "{0?x(" + "a".repeat(89) + ")}";
        Check.due("characters", 96, inside.length());
        sound(true, "a".repeat(96), "#".repeat(96), "{3}".repeat(32), inside);
        sound(false, "a".repeat(95) + "{", "a".repeat(95) + ")", "{0?x(" + "a".repeat(91), "{".repeat(96), "{0?x(" + "a".repeat(90) + ")");
    }

    private static void argumentsOutsideTheFour() {
        Check.promise(5, "arg = one of 0 1 2 3");
        sound(true, "{0}", "{3}", "{0?x()}", "{3?x()}", "{0:x()}", "{3:x()}");
        sound(false, "{4}", "{9}", "{}", "{a}", "{-}", "{.}", "{!}", "{#}", "{-1}", "{00}", "{10}", "{?x()}", "{4?x()}", "{4:x()}", "{9:x()}");
    }

    private static void choiceWithoutBranch() {
        Check.promise(5, "branch { branch }: at least one");
        sound(true, "{0?x()}", "{0:x()}", "{0?x()x()}", "{0:=1()=1()=1()}");
        sound(false, "{0?}", "{0:}", "{0?}a", "a{0:}b", "{0?x({1:})}");
    }

    private static void keyOfNoneOrTwo() {
        Check.promise(5, "key = \"=\" digit | letter");
        sound(false, "{0?()}", "{0?=()}", "{0?=10()}", "{0?==1()}", "{0?=x()}", "{0?1()}", "{0?xo()}", "{0?x=1()}", "{0?=1x()}", "{0?x()()}",
            "{0?=-()}", "{0?#()}", "{0?-()}", "{0? ()}", "{0?.()}");
    }

    private static void keysAtTheEnds() {
        Check.promise(5, "letter = one of a to z, digit = one of 0 to 9");
        sound(true, "{0?a()}", "{0?z()}", "{0?=0()}", "{0?=9()}", "{0:a()}", "{0:z()}", "{0:=0()}", "{0:=9()}", "az09 ,.!-");
        sound(false, "{0?=:()}", "{0?=a()}", "{0?{()}", "{0?=.()}");
    }

    private static void blanksInBraces() {
        Check.promise(5, "In \"{\" arg .. the characters follow each other without blanks");
        sound(false, "{ 0}", "{0 }", "{ 0?x()}", "{0 ?x()}", "{0? x()}", "{0?x ()}", "{0?x() }", "{0?x() o()}", "{0?= 1()}", "{0?=1 ()}",
            "{0 :x()}", "{0: x()}", "{0:x() }");
        sound(true, " {0} ", "{0?x( )}", "{0:x( {1} )o( )} ");
    }

    private static void fourBracesOpen() {
        Check.promise(5, "at no place more than 4 braces are open: 4 are");
        sound(true, "{0?x({1?x({2?x({3})})})}", "{0:x({1:x({2:x({3})})})}", "{0?x({1?x({2?x({3?x(#)})})})}", "{0:x({1:x({2:x({3:x()})})})}",
            "{0?x({1:x({2?x({3:x(a)o(b)}{3})o({3})})})}{0}");
    }

    private static void fiveBracesOpen() {
        Check.promise(5, "at no place more than 4 braces are open: 5 are");
        sound(false, "{0?x({1?x({2?x({3?x({0})})})})}", "{0:x({1:x({2:x({3:x({0})})})})}", "{0?x({1?x({2?x({3?x({0?x()})})})})}",
            "{0?x({1:x({2?x({3:o()x({0:x()})})})})}", "{0?x({1?x({2?x({3?x({0?x({1})})})})})}", "a{0}{0?x({1?x({2?x({3?x({0})})})})}b");
    }

    private static void closedBracesAreNotOpen() {
        Check.promise(5, "at no place more than 4 braces are open: closed ones do not count");
        sound(true, "{0}".repeat(20), "{0?x({1}{2}{3}{0}{1}{2})}", "{0?a({1?x({2?x({3})})})b({1?x({2?x({3})})})}", "{0?x()}{0?x()}{0?x()}{0?x()}{0?x()}{0?x()}");
    }

    private static void templateThatEndsTooEarly() {
        Check.promise(5, "It is SOUND iff it is made by this grammar: too short");
        String whole = "{0?=1({1})x({2:o(#)})}";
        for (int n = 1; n < whole.length(); n++) {
            sound(false, whole.substring(0, n));
        }
        sound(true, whole);
    }

    private static void closersThatCloseNothing() {
        Check.promise(5, "It is SOUND iff it is made by this grammar: too long");
        sound(false, "}", ")", "(", "()", "a}", "a)", "{0}}", "{0})", "{0?x()}}", "{0?x()})", "{0?x())}", "{0?x(})", "{0?x(()}", "{0?x(a()}",
            "{0?x({1)}}", "?", ":", "=", "=1", "x(a)", "{0}(a)", "{0?x()}x()", "{0?x(o(a))}", "{0?x(a)b}", "{0?x(a)#}", "{0?x(a){1}}");
        // As many closers as openers, but not in the grammar's order.
        sound(false, "}{", ")(", "}{0", "}{0?x(", "}{0?x(a", "{0?x(}", "{0?x(a}", "{0?x(a}b", "{0?x(}{1?x()}", "{0?x({1?x(})})", "{0?x({1}}{2)}");
    }

    private static void soundChangesNothing() {
        Check.promise(5, "Whether the template is sound");
        PluralMessages x = Check.typed(0, "{1}");
        x.set(1, 8);
        x.format();
        x.type('{');
        Check.due("sound", false, x.sound());
        Check.due("sound again", false, x.sound());
        keeps(x, "8", 2);
        Check.due("rub", 3, x.rub());
        Check.due("sound", true, x.sound());
        Check.due("sound again", true, x.sound());
        keeps(x, "8", 2);
    }

    // Promise 6

    private static void setOutside() {
        Check.promise(6, "i outside 0..3: refused, answers false");
        for (int i : new int[] {-1, -2, -4, LEAST, LEAST + 1, LEAST + 3, 4, 5, 7, 8, 256, 257, 65536, 1 << 30, GREATEST, GREATEST - 3}) {
            Check.due("set(" + i + ")", false, new PluralMessages(0).set(i, 0));
            Check.due("set(" + i + ", 1)", false, new PluralMessages(0).set(i, 1));
        }
        for (int i = -2000; i <= 2000; i++) {
            Check.due("set(" + i + ")", i >= 0 && i < 4, new PluralMessages(0).set(i, 1));
        }
    }

    private static void setRefusedChangesNothing() {
        Check.promise(6, "refused: nothing changed");
        PluralMessages x = Check.typed(0, "{0},{1},{2},{3}");
        Check.setAll(x, 1, 2, 3, 4);
        x.format();
        for (int i : new int[] {-1, -4, LEAST, 4, 5, 6, 7, 256, GREATEST}) {
            x.set(i, 99);
        }
        keeps(x, "1,2,3,4", 15);
        formatsAs(x, "1,2,3,4");
        Check.due("template", 15, x.wipe());
    }

    private static void setAtTheEnds() {
        Check.promise(6, "Sets an argument. Else true");
        PluralMessages x = Check.typed(0, "{0},{1},{2},{3}");
        Check.due("set(0)", true, x.set(0, LEAST));
        Check.due("set(3)", true, x.set(3, GREATEST));
        formatsAs(x, "-2147483648,0,0,2147483647");
        Check.due("set(0) to the value it has", true, x.set(0, LEAST));
        Check.due("set(0) to 0", true, x.set(0, 0));
        Check.due("set(3) to 0", true, x.set(3, 0));
        formatsAs(x, "0,0,0,0");
    }

    // Promise 7: what formatting writes

    private static void zeroIsOneDigit() {
        Check.promise(7, "\"0\" for 0");
        formats(0, "{0}", "0", 0);
        formats(0, "{0?x(#)}", "0", 0);
        formats(0, "{0}{1}{0}", "050", 0, 5);
    }

    private static void negativeValues() {
        Check.promise(7, "\"-\" if it is negative");
        formats(0, "{0}", "-1", -1);
        formats(0, "{0?o(#)}", "-1", -1);
        formats(0, "-{0}", "--9", -9);
        formats(0, "{0}", "-10", -10);
    }

    private static void noLeadingZeros() {
        Check.promise(7, "then its digits without leading zeros");
        for (int power = 1, k = 0; k < 10; k++, power *= 10) {
            for (int n : new int[] {power - 1, power, power + 1}) {
                formats(0, "{0}", "" + n, n);
                formats(0, "{0}", "" + -n, -n);
                formats(0, "{0?x(#)o(#)}", "" + -n, -n);
            }
        }
    }

    private static void greatestAndLeastValue() {
        Check.promise(7, "the argument's value as a decimal number: the greatest and the least");
        formats(0, "{0}", "2147483647", GREATEST);
        formats(0, "{0}", "-2147483648", LEAST);
        formats(0, "{0}", "-2147483647", LEAST + 1);
        formats(0, "{0?x(#)}", "2147483647", GREATEST);
        formats(0, "{0?x(#)}", "-2147483648", LEAST);
    }

    private static void hashInNoChoice() {
        Check.promise(7, "the character # if it is in none");
        formats(0, "#", "#", 5, 5, 5, 5);
        formats(0, "{1:x(#)}", "#", 0, 50);
        formats(0, "{1:x({2:x({3:x(#)})})}", "#", 0, 50, 50, 50);
    }

    private static void hashInTheInnermostPluralChoice() {
        Check.promise(7, "of the argument of the innermost \"?\" choice around it");
        formats(0, "{1?x({2?x(#)})}", "60", 0, 50, 60);
        formats(0, "{1?x({2:x(#)})}", "50", 0, 50, 60);
        formats(0, "{1?x({2:x({3:x(#)})})}", "50", 0, 50, 60, 70);
        formats(0, "{0:x({1?x({2:x({3?x(#)}#)}#)}#)}#", "705050##", 40, 50, 60, 70);
        formats(0, "{0?x({1?x({2?x({3?x(#)}#)}#)}#)}", "70605040", 40, 50, 60, 70);
    }

    private static void hashAfterAChoice() {
        Check.promise(7, "of the innermost \"?\" choice around it: one that has ended is not around it");
        formats(0, "#{1?x()}#", "##", 0, 50);
        formats(0, "{1?x({2?x()}#)}", "50", 0, 50, 60);
        formats(0, "{1?x({2?a()}#)}", "50", 0, 50, 60);
        formats(0, "{1?a()}#", "#", 0, 50);
    }

    // Promise 7: the branch of a choice

    private static void digitKeyIsTheWholeValue() {
        Check.promise(7, "a key = and a digit whose number is the argument's value");
        String keys = "{0?=0(a)=1(b)=8(c)=9(d)x(e)o(f)}";
        formats(0, keys, "a", 0);
        formats(0, keys, "b", 1);
        formats(0, keys, "c", 8);
        formats(0, keys, "d", 9);
        formats(0, keys, "f", -1);
        for (int v : new int[] {2, 7, 10, 11, 19, -8, -9, 256, 257, 65536, 1 << 30, LEAST, GREATEST, '0', '9', '0' - 1}) {
            formats(0, keys, "e", v);
        }
    }

    private static void digitKeyBeforeLetterBeforeX() {
        Check.promise(7, "the message of the first of these");
        String[] orders = {"=1(p)o(q)x(r)", "=1(p)x(r)o(q)", "o(q)=1(p)x(r)", "o(q)x(r)=1(p)", "x(r)=1(p)o(q)", "x(r)o(q)=1(p)"};
        for (String branches : orders) {
            formats(0, "{0?" + branches + "}", "p", 1);
            formats(0, "{0?" + branches + "}", "q", -1);
            formats(0, "{0?" + branches + "}", "r", 2);
        }
        formats(0, "{0:x(r)b(q)=1(p)}", "p", 1);
        formats(0, "{0:x(r)b(q)=0(p)}", "q", 1);
        formats(0, "{0:x(r)c(q)=0(p)}", "r", 1);
    }

    private static void noBranchWritesNothing() {
        Check.promise(7, "nothing at all if there is none");
        formats(0, "{0?=1(p)o(q)}", "", 2);
        formats(0, "a{0?=1({1})o(#)}b", "ab", 2);
        formats(0, "{0:a(p)y(q)}", "", 24);
        formats(0, "{1?x({0:a({1}{2})}c)}", "c", 2);
    }

    private static void emptyBranchIsABranch() {
        Check.promise(7, "the message of the first of these: an empty one");
        formats(0, "{0?=1()o(q)x(r)}", "", 1);
        formats(0, "{0?x(r)o()}", "", 1);
        formats(0, "{0?x()x(r)}", "", 2);
    }

    private static void sameKeyTwice() {
        Check.promise(7, "two branches may have the same key, and then the first one counts");
        formats(0, "{0?=1(p)=1(q)}", "p", 1);
        formats(0, "{0?o(p)o(q)}", "p", 1);
        formats(0, "{0?x(p)x(q)}", "p", 2);
        formats(0, "{0:b(p)b(q)}", "p", 1);
        formats(0, "{0:x(p)x(q)}", "p", 23);
        formats(0, "{0?x(r)=1(p)o(s)=1(q)}", "p", 1);
    }

    private static void selectLettersAtTheEnds() {
        Check.promise(7, "The letter of a \":\" choice is a for value 0, b for 1, .. w for 22, and x for all other values");
        String keys = "{0:a(0)b(1)c(2)v(21)w(22)x(other)y(24)z(25)}";
        for (int v : new int[] {0, 1, 2, 21, 22}) {
            formats(0, keys, "" + v, v);
        }
        for (int v : new int[] {23, 24, 25, 26, 255, 256, 65536, 1 << 30, GREATEST, -1, -2, -22, -23, -256, LEAST, LEAST + 1}) {
            formats(0, keys, "other", v);
            formats(0, "{0:a(0)w(22)y(24)z(25)}", "", v);
        }
    }

    private static void anyLetterAsKey() {
        Check.promise(7, "a branch may have any letter as key");
        for (char key = 'a'; key <= 'z'; key++) {
            formats(0, "{0?" + key + "(p)}", key == 'o' || key == 'x' ? "p" : "", 1);
            formats(0, "{0:" + key + "(p)}", key == 'x' ? "p" : "", -1);
        }
    }

    // Promise 7: the rules

    private static void rulesZero() {
        Check.promise(7, "rules 0: o if n is 1, else x");
        letters(0, 'o', 1, -1);
        letters(0, 'x', 0, 2, -2, 10, 11, 21, 101, -11, 257, 65537, LEAST, LEAST + 1, GREATEST);
    }

    private static void rulesOneEndsWithOne() {
        Check.promise(7, "rules 1: o if n ends with 1 but not with 11");
        letters(1, 'o', 1, -1, 21, -21, 91, 101, 121, 191, 1001, 2147483641, -2147483641);
        letters(1, 'm', 11, -11, 111, -111, 211, 1011, 2147483611, -2147483611);
    }

    private static void rulesOneEndsWithTwoToFour() {
        Check.promise(7, "f if n ends with 2, 3 or 4 but not with 12, 13 or 14");
        letters(1, 'f', 2, 3, 4, -2, -3, -4, 22, 23, 24, 92, 94, 102, 104, 122, 1002, -1004, 2147483642, 2147483644, -2147483642);
        letters(1, 'm', 12, 13, 14, -12, -13, -14, 112, 113, 114, 1012, 1014, 2147483612, 2147483614, -2147483614);
    }

    private static void rulesOneElse() {
        Check.promise(7, "rules 1: else m");
        letters(1, 'm', 0, 5, 9, 10, 15, 19, 20, 25, 30, 100, 105, 110, 120, -5, -10, -20, GREATEST, LEAST, LEAST + 1);
    }

    private static void rulesTwoSmall() {
        Check.promise(7, "rules 2: z if n is 0, o if 1, t if 2");
        letters(2, 'z', 0);
        letters(2, 'o', 1, -1);
        letters(2, 't', 2, -2);
    }

    private static void rulesTwoFew() {
        Check.promise(7, "else f if the number of n's last two digits is 3 to 10");
        letters(2, 'f', 3, 4, 9, 10, -3, -10, 103, 110, -103, -110, 203, 1003, 1010, 2147483603, 2147483610, -2147483610);
    }

    private static void rulesTwoMany() {
        Check.promise(7, "m if it is 11 to 99");
        letters(2, 'm', 11, 12, 98, 99, -11, -99, 111, 199, -199, 1011, 1099, 2147483611, 2147483599, GREATEST);
    }

    private static void rulesTwoElse() {
        Check.promise(7, "rules 2: else x");
        letters(2, 'x', 100, 101, 102, -100, -101, -102, 200, 202, 1000, 1001, 2147483600, 2147483602, -2147483602);
    }

    private static void leastValueWithoutItsSign() {
        Check.promise(7, "n the argument's value without its sign (as an exact number)");
        letters(0, 'x', LEAST);
        letters(1, 'm', LEAST);
        letters(2, 'm', LEAST);
        letters(2, 'm', LEAST + 1);
    }

    private static void letters(int rules, char letter, int... values) {
        for (int v : values) {
            formats(rules, "{0?z(z)o(o)t(t)f(f)m(m)x(x)a(a)}", "" + letter, v);
        }
    }

    // Promise 7: what format() answers

    private static void unsoundChangesNothing() {
        Check.promise(7, "UNSOUND, with nothing changed, if it is not sound");
        PluralMessages x = Check.typed(1, "{1}-{2?f(#)}");
        Check.setAll(x, 1, -2, 3, 4);
        formatsAs(x, "-2-3");
        x.set(1, 9);
        x.type('{');
        x.type('0');
        Check.due("format", UNSOUND, x.format());
        keeps(x, "-2-3", 6);
        Check.due("format again", UNSOUND, x.format());
        keeps(x, "-2-3", 6);
        Check.due("template", 15, x.type('}'));
        formatsAs(x, "9-31");
        Check.due("consulted", 7, x.consulted());

        x = Check.typed(0, "ok}");
        Check.due("unsound only at its end", UNSOUND, x.format());
        Check.due("length", 0, x.length());
    }

    private static void unsoundBeforeTooLong() {
        Check.promise(7, "UNSOUND, .. TOO_LONG, ..: in this order");
        PluralMessages x = Check.typed(0, "{0}".repeat(31));
        x.set(0, LEAST);
        Check.due("sound", TOO_LONG, x.format());
        x.type('{');
        Check.due("unsound", UNSOUND, x.format());
        x.wipe();
        x.type('a');
        formatsAs(x, "a");
        Check.retype(x, "{0}".repeat(31) + ")");
        Check.due("unsound", UNSOUND, x.format());
        keeps(x, "a", 0);
    }

    private static void outputOf120() {
        Check.promise(7, "if the result has more than 120 characters: 120 has not");
        PluralMessages x = Check.typed(0, "{0}".repeat(12));
        x.set(0, GREATEST);
        Check.due("twelve numbers", 120, x.format());
        Check.due("output", "2147483647".repeat(12), Check.output(x));

        x = Check.typed(0, "{0}".repeat(10) + "abcdefghij");
        x.set(0, LEAST);
        Check.due("ends with a plain", 120, x.format());
        Check.due("the last", (int) 'j', x.charAt(119));

        x = Check.typed(0, "{0?x(" + "#".repeat(12) + ")}");
        x.set(0, GREATEST);
        Check.due("twelve #", 120, x.format());
        Check.due("the last", (int) '7', x.charAt(119));
    }

    private static void outputOf121() {
        Check.promise(7, "TOO_LONG, with the output made empty, if the result has more than 120 characters: 121");
        tooLong("{0}".repeat(12) + "a", GREATEST, 0);
        tooLong("a" + "{0}".repeat(12), GREATEST, 0);
        tooLong("{0}".repeat(12) + "#", GREATEST, 0);
        tooLong("{0}".repeat(12) + "{1}", GREATEST, 0);
        tooLong("{0}".repeat(11), LEAST, 0);
        tooLong("{0?x(" + "#".repeat(11) + ")}", LEAST, 0);
        tooLong("{0}".repeat(11) + "abcdefghi{1}", GREATEST, -1);
        tooLong("{0}".repeat(12) + "{1?o(a)}", GREATEST, 1);
    }

    private static void outputFarTooLong() {
        Check.promise(7, "if the result has more than 120 characters: far more");
        tooLong("{0}".repeat(32), GREATEST, 0);
        tooLong("{0}".repeat(32), LEAST, 0);
        tooLong("{0?x(" + "#".repeat(89) + ")}", LEAST, 0);
        // 256, 257 and 512 characters would look short in a byte.
        tooLong("{0}".repeat(25) + "abcdef", GREATEST, 0);
        tooLong("{0}".repeat(25) + "abcdefg", GREATEST, 0);
        tooLong("{0?x(" + "#".repeat(51) + ")}ab", GREATEST, 0);
    }

    private static void onlyTheResultIsCounted() {
        Check.promise(7, "if the result has more than 120 characters: branches that are not chosen have none");
        formats(0, "{1?=9(" + "{0}".repeat(20) + ")x(a)}", "a", LEAST, 5);
        formats(0, "{1:a(b)x(" + "{0}".repeat(20) + ")}", "b", LEAST, 0);
        formats(0, "{1?=9(" + "{0}".repeat(20) + ")}", "", LEAST, 5);
    }

    private static void tooLongKeepsTheRest() {
        Check.promise(7, "TOO_LONG, with the output made empty: only the output");
        PluralMessages x = Check.typed(0, "{0}".repeat(12) + "a");
        x.set(0, GREATEST);
        Check.due("too long", TOO_LONG, x.format());
        Check.due("too long again", TOO_LONG, x.format());
        Check.due("template", 36, x.rub());
        Check.due("one less", 120, x.format());
        Check.due("the last", (int) '7', x.charAt(119));
        x.type('{');
        Check.due("unsound", UNSOUND, x.format());
        Check.due("length", 120, x.length());
    }

    private static void formatOfAnEmptyTemplate() {
        Check.promise(7, "Else answers the output's number of characters: 0");
        PluralMessages x = Check.typed(0, "abc");
        x.format();
        x.wipe();
        Check.due("format", 0, x.format());
        keeps(x, "", 0);
    }

    private static void formatReplacesTheOutput() {
        Check.promise(7, "Formats the template as a message into the output: the former one is gone");
        PluralMessages x = Check.typed(0, "abc");
        formatsAs(x, "abc");
        formatsAs(x, "abc");
        Check.retype(x, "d");
        formatsAs(x, "d");
        Check.due("charAt(1)", BAD, x.charAt(1));
    }

    // Promises 8 and 9

    private static void lengthAtTheEnds() {
        Check.promise(8, "The number of characters of the output: 0 and 120");
        PluralMessages x = new PluralMessages(0);
        Check.due("new", 0, x.length());
        x.format();
        Check.due("empty", 0, x.length());
        Check.retype(x, "{0}".repeat(12));
        x.set(0, GREATEST);
        x.format();
        Check.due("full", 120, x.length());
        x.type('a');
        x.format();
        Check.due("too long", 0, x.length());
    }

    private static void lengthOfTheOutputAlone() {
        Check.promise(8, "The number of characters of the output: not of the template");
        PluralMessages x = Check.typed(0, "a{0}b");
        Check.due("before format", 0, x.length());
        x.set(0, 12345);
        x.format();
        Check.due("after format", 7, x.length());
        x.set(0, 1);
        x.rub();
        Check.due("after set and rub", 7, x.length());
        x.type('{');
        x.format();
        Check.due("after an unsound one", 7, x.length());
        x.wipe();
        Check.due("after wipe", 7, x.length());
    }

    private static void charAtTheEnds() {
        Check.promise(9, "Character i of the output, from 0, as a number");
        PluralMessages x = Check.typed(0, "z 0#-{0}a");
        x.set(0, -9);
        x.format();
        int[] want = {122, 32, 48, 35, 45, 45, 57, 97};
        for (int i = 0; i < want.length; i++) {
            Check.due("charAt(" + i + ")", want[i], x.charAt(i));
        }
    }

    private static void charOutside() {
        Check.promise(9, "BAD if there is none");
        PluralMessages x = Check.typed(0, "abc");
        x.format();
        for (int i : new int[] {-1, -2, -3, LEAST, LEAST + 1, 3, 4, 95, 96, 119, 120, 121, 255, 256, 257, 65536, 1 << 30, GREATEST}) {
            Check.due("charAt(" + i + ")", BAD, x.charAt(i));
        }
        Check.retype(x, "{0}".repeat(12));
        x.set(0, GREATEST);
        x.format();
        Check.due("charAt(119) of 120", (int) '7', x.charAt(119));
        for (int i : new int[] {-1, LEAST, 120, 121, 128, 256, GREATEST}) {
            Check.due("charAt(" + i + ") of 120", BAD, x.charAt(i));
        }
        for (int i = -2000; i <= 2000; i++) {
            x = Check.typed(0, "abc");
            x.format();
            Check.due("charAt(" + i + ")", i >= 0 && i < 3 ? 'a' + i : BAD, x.charAt(i));
        }
    }

    private static void charOfAnEmptyOutput() {
        Check.promise(9, "BAD if there is none: an empty output");
        PluralMessages x = Check.typed(0, "abc");
        Check.due("before format", BAD, x.charAt(0));
        x.format();
        x.wipe();
        x.format();
        Check.due("after an empty one", BAD, x.charAt(0));
        Check.retype(x, "{0}".repeat(32));
        x.set(0, GREATEST);
        x.format();
        for (int i : new int[] {-1, 0, 1, 119, 120, 319}) {
            Check.due("charAt(" + i + ") after a too long one", BAD, x.charAt(i));
        }
    }

    private static void charBehindAShorterOutput() {
        Check.promise(9, "BAD if there is none: a former output had one");
        PluralMessages x = Check.typed(0, "abc");
        x.format();
        x.rub();
        Check.due("before the shorter one", (int) 'c', x.charAt(2));
        x.format();
        Check.due("the last", (int) 'b', x.charAt(1));
        Check.due("behind the last", BAD, x.charAt(2));
    }

    // Promise 10

    private static void namedOfNone() {
        Check.promise(10, "The set of the arguments that the template names: none");
        named(0, "", "a", "#", "0123", "- 3.");
    }

    private static void namedAnywhere() {
        Check.promise(10, "that the template names anywhere (bit i for argument i)");
        named(1, "{0}", "{0}{0}", "{0?x()}", "{0:x()}");
        named(2, "{1}");
        named(4, "{2}");
        named(8, "{3}", "{3:q({3})}", "a".repeat(93) + "{3}");
        named(15, "{0}{1}{2}{3}", "{0?q({1:q({2?q({3})})})}", "{0?a({3})=5({2})z({1})}");
        named(9, "{0}".repeat(31) + "{3}");
        PluralMessages x = Check.typed(0, "{0?o({1})x({2})}");
        x.format();
        Check.due("also where the latest format() was not", 7, x.named());
    }

    private static void namedByNothingElse() {
        Check.promise(10, "that the template names: a digit without brace names none");
        named(1, "{0}1", "{0?=1()=2()=3()}", "{0:=3(#2)}", "1{0}2", "{0?x(3)}");
    }

    private static void namedOfAnUnsoundTemplate() {
        Check.promise(10, "0 if it is not sound");
        named(0, "{", "{1", "{1}{", "{1}}", "{1})", "{4}{1}", "{1}{4}", "{1?}", "{1?x()", "{0?x({1?x({2?x({3?x({0})})})})}");
        PluralMessages x = Check.typed(0, "{2}");
        Check.due("sound", 4, x.named());
        x.type('(');
        Check.due("unsound", 0, x.named());
        x.rub();
        Check.due("sound again", 4, x.named());
        x.rub();
        Check.due("unsound again", 0, x.named());
        x.wipe();
        Check.due("wiped", 0, x.named());
    }

    private static void named(int want, String... templates) {
        for (String t : templates) {
            Check.due("named " + t, want, Check.typed(0, t).named());
        }
    }

    // Promise 11

    private static void consultedBeforeAny() {
        Check.promise(11, "0 before any");
        PluralMessages x = new PluralMessages(0);
        Check.due("new", 0, x.consulted());
        Check.retype(x, "{0}{3}");
        x.set(0, 7);
        x.sound();
        x.named();
        Check.due("before format", 0, x.consulted());
        x.type('{');
        x.format();
        Check.due("after an unsound one alone", 0, x.consulted());
        Check.retype(x, "{0}".repeat(32));
        x.set(0, LEAST);
        Check.due("format", TOO_LONG, x.format());
        Check.due("after a too long one alone", 0, x.consulted());
    }

    private static void consultedAfterRefusedFormats() {
        Check.promise(11, "by the latest format() that answered a length");
        PluralMessages x = Check.typed(0, "{1}{2}");
        x.set(0, LEAST);
        x.format();
        x.rub();
        Check.due("format", UNSOUND, x.format());
        Check.due("after an unsound one", 6, x.consulted());
        Check.retype(x, "{0}".repeat(11));
        Check.due("format", TOO_LONG, x.format());
        Check.due("after a too long one", 6, x.consulted());
        Check.retype(x, "{3}" + "{0}".repeat(10));
        Check.due("format", 111, x.format());
        Check.due("after one that answered a length", 9, x.consulted());
    }

    private static void consultedOfTheLatestAlone() {
        Check.promise(11, "by the latest format(): not by the ones before");
        PluralMessages x = Check.typed(0, "{1}");
        x.format();
        Check.due("the first", 2, x.consulted());
        Check.retype(x, "{2}");
        x.format();
        Check.due("the second", 4, x.consulted());
        x.wipe();
        x.format();
        Check.due("an empty one, which answers 0", 0, x.consulted());
    }

    private static void consultedByNumber() {
        Check.promise(11, "those that were written, by number");
        consulted(0, "", 5);
        consulted(0, "0123", 5);
        consulted(1, "{0}", 5);
        consulted(8, "{3}{3}", 5);
        consulted(15, "{3}{2}{1}{0}", 0);
    }

    private static void consultedByHash() {
        Check.promise(11, "or by #");
        consulted(0, "#", 5);
        consulted(4, "{2?x(#)}", 5);
        consulted(4, "{2:x(#)}", 50);
        consulted(6, "{1?x({2:x(#)})}", 50);
    }

    private static void consultedByChoices() {
        Check.promise(11, "those of the choices that were made");
        consulted(4, "{2?x()}", 5);
        consulted(4, "{2:x()}", 5);
        consulted(4, "{2?=5()}", 5);
        consulted(15, "{0?x({1:x({2?x({3:x()})})})}", 5);
        // No branch fits, but the value had to be looked at to tell that.
        consulted(4, "{2?o(a)}", 5);
        consulted(4, "{2:a(a)}", 5);
    }

    private static void consultedNotInOtherBranches() {
        Check.promise(11, "whose values were looked at: those of other branches were not");
        consulted(1, "{0?o({1}{2?x()}{3:x()})x()}", 5);
        consulted(3, "{0?x({1})x({2})o({3})}", 5);
        consulted(9, "{0:a({1})f({3?o({2})})x({2})}", 5);
        consulted(1, "{0?q({1})}", 5);
    }

    private static void consultedStays() {
        Check.promise(11, "by the latest format(): no other call changes it");
        PluralMessages x = Check.typed(0, "{1}");
        x.format();
        x.type('{');
        x.type('A');
        x.rub();
        x.set(0, 1);
        x.set(4, 1);
        x.sound();
        x.named();
        x.charAt(0);
        x.wipe();
        x.rub();
        Check.due("consulted", 2, x.consulted());
        Check.due("consulted again", 2, x.consulted());
    }

    private static void consulted(int want, String template, int valueOfAll) {
        PluralMessages x = Check.typed(0, template);
        Check.setAll(x, valueOfAll, valueOfAll, valueOfAll, valueOfAll);
        Check.due("format answers a length: " + template, true, x.format() >= 0);
        Check.due("consulted " + template, want, x.consulted());
    }

    // What the tests share. An object is good for 512 calls, so each template has a new one.

    private static PluralMessages typed(int characters) {
        return Check.typed(0, "a".repeat(characters));
    }

    private static void sound(boolean want, String... templates) {
        for (String t : templates) {
            Check.due("sound " + t, want, Check.typed(0, t).sound());
        }
    }

    private static void formats(int rules, String template, String want, int... values) {
        PluralMessages x = Check.typed(rules, template);
        Check.setAll(x, values);
        formatsAs(x, want);
    }

    private static void formatsAs(PluralMessages x, String want) {
        Check.due("format to " + want, want.length(), x.format());
        Check.due("output", want, Check.output(x));
    }

    private static void tooLong(String template, int value0, int value1) {
        PluralMessages x = Check.typed(0, "former");
        x.format();
        Check.retype(x, template);
        Check.setAll(x, value0, value1);
        Check.due("format " + template, TOO_LONG, x.format());
        Check.due("length", 0, x.length());
        Check.due("charAt(0)", BAD, x.charAt(0));
        Check.due("charAt(119)", BAD, x.charAt(119));
    }

    private static void keeps(PluralMessages x, String output, int consulted) {
        Check.due("the output stays", output, Check.output(x));
        Check.due("consulted stays", consulted, x.consulted());
    }
}
