/** Message templates with plural and select choices; ../shared/DOC.md holds the promises. */
public final class PluralMessages {
    public static final int FULL = -1;
    public static final int BAD = -2;
    public static final int UNSOUND = -3;
    public static final int TOO_LONG = -4;

    private static final int TEMPLATE_ROOM = 96;
    private static final int OUTPUT_ROOM = 120;
    private static final int ARGUMENTS = 4;
    private static final int MOST_OPEN = 4;
    // One level more than choices can be open: level 0 is the text outside all choices.
    private static final int LEVELS = 5;
    private static final int GREATEST_RULES = 2;
    private static final int NONE = -1;

    // What sound() has just read, and so what may follow.
    private static final int IN_MESSAGE = 0;
    private static final int AFTER_BRACE = 1;
    private static final int AFTER_ARGUMENT = 2;
    private static final int BEFORE_FIRST_BRANCH = 3;
    private static final int AFTER_BRANCH = 4;
    private static final int AFTER_EQUALS = 5;
    private static final int AFTER_KEY = 6;
    private static final int BROKEN = 7;

    private final char[] template = new char[TEMPLATE_ROOM];
    private final int[] values = new int[ARGUMENTS];
    private final char[] output = new char[OUTPUT_ROOM];
    private final int[] hashArgument = new int[LEVELS];
    private final int[] resumeAt = new int[LEVELS];
    private final int ruleSet;
    private int typed;
    private int written;
    private int lookedAtByLatest;
    // These two live during one format() only.
    private int level;
    private int lookedAt;

    public PluralMessages(int rules) {
        ruleSet = rules < 0 ? 0 : rules > GREATEST_RULES ? GREATEST_RULES : rules;
        typed = 0;
        written = 0;
        lookedAtByLatest = 0;
    }

    public int type(char c) {
        if (typed >= TEMPLATE_ROOM) {
            return FULL;
        }
        if (!isPlain(c) && !isMark(c)) {
            return BAD;
        }
        template[typed] = c;
        typed++;
        return typed;
    }

    public int rub() {
        if (typed == 0) {
            return BAD;
        }
        typed--;
        return typed;
    }

    public int wipe() {
        int had = typed;
        typed = 0;
        return had;
    }

    // No stack is needed: only a choice holds messages, so a ")" inside any open brace
    // ends a branch of the innermost one.
    public boolean sound() {
        int state = IN_MESSAGE;
        int open = 0;
        for (int p = 0; p < typed; p++) {
            char c = template[p];
            state = stateAfter(state, c, open);
            if (c == '{') {
                open++;
            } else if (c == '}') {
                open--;
            }
            if (state == BROKEN || open > MOST_OPEN) {
                return false;
            }
        }
        return state == IN_MESSAGE && open == 0;
    }

    public boolean set(int i, int value) {
        if (i < 0 || i >= ARGUMENTS) {
            return false;
        }
        values[i] = value;
        return true;
    }

    public int format() {
        if (!sound()) {
            return UNSOUND;
        }
        written = 0;
        lookedAt = 0;
        writeTemplate();
        if (written > OUTPUT_ROOM) {
            written = 0;
            return TOO_LONG;
        }
        lookedAtByLatest = lookedAt;
        return written;
    }

    public int length() {
        return written;
    }

    public int charAt(int i) {
        if (i < 0 || i >= written) {
            return BAD;
        }
        return output[i];
    }

    public int named() {
        if (!sound()) {
            return 0;
        }
        int names = 0;
        for (int p = 0; p < typed; p++) {
            if (template[p] == '{') {
                names |= 1 << argumentAt(p + 1);
            }
        }
        return names;
    }

    public int consulted() {
        return lookedAtByLatest;
    }

    private static boolean isLetter(int c) {
        return c >= 'a' && c <= 'z';
    }

    private static boolean isDigit(int c) {
        return c >= '0' && c <= '9';
    }

    private static boolean isPlain(int c) {
        return isLetter(c) || isDigit(c) || c == ' ' || c == ',' || c == '.' || c == '!' || c == '-';
    }

    private static boolean isMark(int c) {
        return c == '#' || c == '{' || c == '}' || c == '(' || c == ')' || c == '?' || c == ':' || c == '=';
    }

    private static int stateAfter(int state, int c, int open) {
        switch (state) {
            case IN_MESSAGE:
                return stateAfterPiece(c, open);
            case AFTER_BRACE:
                return c >= '0' && c < '0' + ARGUMENTS ? AFTER_ARGUMENT : BROKEN;
            case AFTER_ARGUMENT:
                if (c == '}') {
                    return IN_MESSAGE;
                }
                return c == '?' || c == ':' ? BEFORE_FIRST_BRANCH : BROKEN;
            case BEFORE_FIRST_BRANCH:
                return stateAfterKeyStart(c);
            case AFTER_BRANCH:
                return c == '}' ? IN_MESSAGE : stateAfterKeyStart(c);
            case AFTER_EQUALS:
                return isDigit(c) ? AFTER_KEY : BROKEN;
            case AFTER_KEY:
                return c == '(' ? IN_MESSAGE : BROKEN;
            default:
                return BROKEN;
        }
    }

    private static int stateAfterPiece(int c, int open) {
        if (c == '{') {
            return AFTER_BRACE;
        }
        if (c == ')') {
            return open > 0 ? AFTER_BRANCH : BROKEN;
        }
        return c == '#' || isPlain(c) ? IN_MESSAGE : BROKEN;
    }

    private static int stateAfterKeyStart(int c) {
        if (c == '=') {
            return AFTER_EQUALS;
        }
        return isLetter(c) ? AFTER_KEY : BROKEN;
    }

    // The look ahead may leave the template, so a place outside it has an answer too.
    private int templateAt(int p) {
        return p >= 0 && p < typed ? template[p] : NONE;
    }

    // The codes of 0 to 3 end with the bits of their numbers; the mask makes every answer an argument.
    private int argumentAt(int p) {
        return templateAt(p) & 3;
    }

    // Called for a sound template only. Every step goes forward, so there are at most as many
    // steps as characters.
    private void writeTemplate() {
        level = 0;
        hashArgument[0] = NONE;
        int p = 0;
        for (int step = 0; step < TEMPLATE_ROOM && p < typed; step++) {
            int c = templateAt(p);
            if (c == '{' && templateAt(p + 2) == '}') {
                int argument = argumentAt(p + 1);
                writeValue(argument);
                p += 3;
            } else if (c == '{') {
                p = enterChoice(p);
            } else if (c == ')') {
                p = leaveChoice();
            } else {
                writeCharacter(c);
                p++;
            }
        }
    }

    private void writeCharacter(int c) {
        int argument = level >= 0 && level < LEVELS ? hashArgument[level] : NONE;
        if (c == '#' && argument != NONE) {
            writeValue(argument);
        } else {
            write(c);
        }
    }

    // Answers where formatting goes on: in the chosen branch, or behind the choice if there is none.
    private int enterChoice(int p) {
        int argument = argumentAt(p + 1);
        boolean plural = templateAt(p + 2) == '?';
        int value = values[argument];
        int letter = plural ? pluralLetter(value) : selectLetter(value);
        lookedAt |= 1 << argument;
        int branch = chosenBranch(p + 3, value, letter);
        int end = afterMatch(p, '{', '}');
        // A sound template never has too many levels; the test guards the arrays.
        if (branch == NONE || level < 0 || level >= MOST_OPEN) {
            return end;
        }
        hashArgument[level + 1] = plural ? argument : hashArgument[level];
        resumeAt[level + 1] = end;
        level++;
        return branch;
    }

    private int leaveChoice() {
        // A sound template has no ")" at level 0; the test guards the array.
        if (level <= 0 || level >= LEVELS) {
            return typed;
        }
        level--;
        return resumeAt[level + 1];
    }

    // Answers where the message of the chosen branch begins, NONE if no branch fits.
    private int chosenBranch(int firstBranch, int value, int letter) {
        int chosen = NONE;
        int chosenRank = 0;
        int p = firstBranch;
        for (int step = 0; step < TEMPLATE_ROOM && p < typed; step++) {
            int key = templateAt(p);
            if (key == '}') {
                break;
            }
            int digit = templateAt(p + 1);
            int rank = rankOf(key, digit, value, letter);
            int parenthesis = key == '=' ? p + 2 : p + 1;
            // Only a greater rank wins, so the first of equal branches counts.
            if (rank > chosenRank) {
                chosenRank = rank;
                chosen = parenthesis + 1;
            }
            p = afterMatch(parenthesis, '(', ')');
        }
        return chosen;
    }

    private static int rankOf(int key, int digit, int value, int letter) {
        if (key == '=') {
            return digit - '0' == value ? 3 : 0;
        }
        if (key == letter) {
            return 2;
        }
        return key == 'x' ? 1 : 0;
    }

    // Answers the place behind the closer that belongs to the opener at start.
    private int afterMatch(int start, int opener, int closer) {
        int open = 0;
        for (int p = start; p >= 0 && p < typed; p++) {
            if (template[p] == opener) {
                open++;
            } else if (template[p] == closer) {
                open--;
            }
            if (open == 0) {
                return p + 1;
            }
        }
        return typed;
    }

    private static int selectLetter(int value) {
        return value >= 0 && value <= 'w' - 'a' ? 'a' + value : 'x';
    }

    private int pluralLetter(int value) {
        long n = withoutSign(value);
        if (ruleSet == 0) {
            return n == 1 ? 'o' : 'x';
        }
        int lastTwo = (int) (n % 100);
        return ruleSet == 1 ? letterByEnding(lastTwo) : letterByRange(n, lastTwo);
    }

    private static int letterByEnding(int lastTwo) {
        int last = lastTwo % 10;
        boolean teen = lastTwo - last == 10;
        if (last == 1 && !teen) {
            return 'o';
        }
        return last >= 2 && last <= 4 && !teen ? 'f' : 'm';
    }

    private static int letterByRange(long n, int lastTwo) {
        if (n == 0) {
            return 'z';
        }
        if (n == 1) {
            return 'o';
        }
        if (n == 2) {
            return 't';
        }
        if (lastTwo >= 3 && lastTwo <= 10) {
            return 'f';
        }
        return lastTwo >= 11 ? 'm' : 'x';
    }

    // A long, because the least int has no positive int.
    private static long withoutSign(int value) {
        long n = value;
        return n < 0 ? -n : n;
    }

    private void writeValue(int argument) {
        if (argument < 0 || argument >= ARGUMENTS) {
            return;
        }
        lookedAt |= 1 << argument;
        long n = withoutSign(values[argument]);
        if (values[argument] < 0) {
            write('-');
        }
        for (long unit = 1000000000L; unit >= 1; unit = unit / 10) {
            if (unit == 1 || n >= unit) {
                write('0' + (int) (n / unit % 10));
            }
        }
    }

    // Counts on beyond the output's end, so that format() can tell that the result is too long.
    private void write(int c) {
        if (written >= 0 && written < OUTPUT_ROOM) {
            output[written] = (char) c;
        }
        written++;
    }
}
