/**
 * Grammars of any kind over three letters, and which stretches of a short text their signs stand for.
 *
 * Every question works out afresh where each sign can end, so that no answer can be out of date.
 */
public final class GllRecogniser {
    private static final int NAMES = 5;
    private static final int SIGNS = 8;
    private static final int FIRST_LETTER = 5;
    private static final int MOST_RULES = 12;
    private static final int MOST_LETTERS = 8;
    /** A text of 8 letters has 9 places where a stretch can begin or end. */
    private static final int PLACES = MOST_LETTERS + 1;
    private static final int CELLS = SIGNS * PLACES;
    private static final int BASE = 9;
    private static final int BASE_SQUARED = BASE * BASE;
    private static final int BASE_CUBED = BASE * BASE_SQUARED;
    /** Each pass but the last adds a name at a stretch, and there are 5 names and 45 stretches. */
    private static final int MOST_PASSES = NAMES * (PLACES * (PLACES + 1) / 2) + 1;

    private final int[] lefts = new int[MOST_RULES];
    /** The right sides as rule() takes them, in base 9. */
    private final int[] rights = new int[MOST_RULES];
    private int ruleCount;

    private final int[] text = new int[MOST_LETTERS];
    private int textLength;

    /** At sign * PLACES + i: the set of all j, as bits, such that the sign is known to fit (i, j). */
    private final int[] reach = new int[CELLS];

    public GllRecogniser() {
        ruleCount = 0;
        textLength = 0;
    }

    public int rule(int name, int right) {
        if (!isName(name)) {
            return -1;
        }
        if (!isRightSide(right)) {
            return -2;
        }
        if (ruleCount >= MOST_RULES) {
            return -3;
        }
        lefts[ruleCount] = name;
        rights[ruleCount] = right;
        ruleCount++;
        return ruleCount - 1;
    }

    public int drop(int rule) {
        if (!isRule(rule)) {
            return -1;
        }
        for (int r = rule; r < ruleCount - 1; r++) {
            lefts[r] = lefts[r + 1];
            rights[r] = rights[r + 1];
        }
        ruleCount--;
        return ruleCount;
    }

    public int clear() {
        int before = ruleCount;
        ruleCount = 0;
        return before;
    }

    public int rules() {
        return ruleCount;
    }

    public int push(int letter) {
        if (letter < FIRST_LETTER || letter >= SIGNS) {
            return -1;
        }
        if (textLength >= MOST_LETTERS) {
            return -2;
        }
        text[textLength] = letter;
        textLength++;
        return textLength;
    }

    public int pop() {
        if (textLength <= 0) {
            return -1;
        }
        textLength--;
        return text[textLength];
    }

    public int write(int count, int code) {
        if (count < 0 || count > MOST_LETTERS) {
            return -1;
        }
        if (code < 0 || code >= textsOfLength(count)) {
            return -2;
        }
        int rest = code;
        for (int place = count - 1; place >= 0; place--) {
            text[place] = FIRST_LETTER + rest % 3;
            rest = rest / 3;
        }
        textLength = count;
        return count;
    }

    public int length() {
        return textLength;
    }

    public int accepts() {
        findReach();
        return bit(reach[0], textLength);
    }

    public int fits(int sign, int i, int j) {
        if (!isSign(sign)) {
            return -1;
        }
        if (!isStretch(i, j)) {
            return -2;
        }
        findReach();
        return bit(reach[sign * PLACES + i], j);
    }

    public int ends(int sign, int i) {
        if (!isSign(sign)) {
            return -1;
        }
        if (i < 0 || i > textLength) {
            return -2;
        }
        findReach();
        return reach[sign * PLACES + i];
    }

    public int ruleFits(int rule, int i, int j) {
        if (!isRule(rule)) {
            return -1;
        }
        if (!isStretch(i, j)) {
            return -2;
        }
        findReach();
        int ruleEnds = endsOfRule(rule, i);
        return bit(ruleEnds, j);
    }

    public int stretches(int sign) {
        if (!isSign(sign)) {
            return -1;
        }
        findReach();
        int count = 0;
        for (int i = 0; i <= textLength; i++) {
            for (int j = i; j <= textLength; j++) {
                count += bit(reach[sign * PLACES + i], j);
            }
        }
        return count;
    }

    public int longest(int sign) {
        if (!isSign(sign)) {
            return -1;
        }
        findReach();
        int best = -2;
        for (int i = 0; i <= textLength; i++) {
            for (int j = i; j <= textLength; j++) {
                if (j - i > best && bit(reach[sign * PLACES + i], j) == 1) {
                    best = j - i;
                }
            }
        }
        return best;
    }

    public int empty(int name) {
        if (!isName(name)) {
            return -1;
        }
        findReach();
        return bit(reach[name * PLACES], 0);
    }

    public int ways(int name, int i, int j) {
        if (!isName(name)) {
            return -1;
        }
        if (!isStretch(i, j)) {
            return -2;
        }
        findReach();
        int count = 0;
        for (int r = 0; r < ruleCount; r++) {
            if (lefts[r] == name) {
                int ruleEnds = endsOfRule(r, i);
                count += bit(ruleEnds, j);
            }
        }
        return count;
    }

    public int nextLetter() {
        if (textLength >= MOST_LETTERS) {
            return -1;
        }
        for (int letter = FIRST_LETTER; letter < SIGNS; letter++) {
            layText();
            // Only reach is told of the further letter: the text itself must stay as it is.
            layLetter(letter, textLength);
            applyRules(textLength + 1);
            if (bit(reach[0], textLength + 1) == 1) {
                return letter;
            }
        }
        return 0;
    }

    private static boolean isName(int name) {
        return name >= 0 && name < NAMES;
    }

    private static boolean isSign(int sign) {
        return sign >= 0 && sign < SIGNS;
    }

    private boolean isRule(int rule) {
        return rule >= 0 && rule < ruleCount;
    }

    private boolean isStretch(int i, int j) {
        return 0 <= i && i <= j && j <= textLength;
    }

    /** A digit 0 stands for no sign, so it may only stand in front of all others. */
    private static boolean isRightSide(int right) {
        if (right < 0 || right >= BASE_CUBED) {
            return false;
        }
        if (right >= BASE && right % BASE == 0) {
            return false;
        }
        return right < BASE_SQUARED || right / BASE % BASE != 0;
    }

    private static int textsOfLength(int count) {
        int texts = 1;
        for (int k = 0; k < count; k++) {
            texts *= 3;
        }
        return texts;
    }

    private static int bit(int set, int element) {
        return (set >> element) & 1;
    }

    private void findReach() {
        layText();
        applyRules(textLength);
    }

    private void layText() {
        for (int cell = 0; cell < CELLS; cell++) {
            reach[cell] = 0;
        }
        for (int place = 0; place < textLength; place++) {
            layLetter(text[place], place);
        }
    }

    private void layLetter(int letter, int place) {
        reach[letter * PLACES + place] = 1 << (place + 1);
    }

    /** Names may lean on themselves and on each other, so the rules are applied until nothing more is found. */
    private void applyRules(int size) {
        boolean grew = true;
        for (int pass = 0; pass < MOST_PASSES && grew; pass++) {
            grew = false;
            for (int r = 0; r < ruleCount; r++) {
                if (applyRule(r, size)) {
                    grew = true;
                }
            }
        }
    }

    private boolean applyRule(int rule, int size) {
        boolean grew = false;
        for (int i = 0; i <= size; i++) {
            int cell = lefts[rule] * PLACES + i;
            int before = reach[cell];
            reach[cell] = before | endsOfRule(rule, i);
            if (reach[cell] != before) {
                grew = true;
            }
        }
        return grew;
    }

    private int endsOfRule(int rule, int i) {
        int right = rights[rule];
        int set = 1 << i;
        set = follow(right / BASE_SQUARED, set);
        set = follow(right / BASE % BASE, set);
        return follow(right % BASE, set);
    }

    /** The places where the sign of a digit can end if it begins at one of the given places. */
    private int follow(int digit, int begins) {
        if (digit == 0) {
            return begins;
        }
        int set = 0;
        for (int place = 0; place < PLACES; place++) {
            if (((begins >> place) & 1) == 1) {
                set |= reach[(digit - 1) * PLACES + place];
            }
        }
        return set;
    }
}
