import java.util.List;

/** Each sentence of promises 10 to 18 that names a boundary case, with a test of its own. */
public final class QuestionsBoundaryTest extends Boundaries {
    public static void main(String[] args) {
        acceptsTheEmptyText();
        acceptsTheFullText();
        acceptsByNameZeroAlone();
        fitsOfABadSign();
        fitsOutsideTheText();
        fitsAtTheBorders();
        endsOfABadSign();
        endsOutsideTheText();
        endsAtTheBorders();
        ruleFitsOfNoRule();
        ruleFitsOutsideTheText();
        ruleFitsAtTheBorders();
        stretchesFromNoneToAll();
        stretchesOfABadSign();
        longestFromNoneToEight();
        longestOfABadSign();
        emptyInEveryText();
        emptyOfABadName();
        waysFromNoneToTwelve();
        waysOfABadName();
        waysOutsideTheText();
        nextLetterOfAFullText();
        nextLetterIsTheLeast();
        nextLetterIfThereIsNone();
        finish();
    }

    /** The first argument is bad, the stretch is good or bad: the first reason is answered. */
    private static void refusesFirst(Start start, String method, Iterable<Integer> bad) {
        for (int first : bad) {
            unchanged(start, -1, method, first, 0, start.length);
            unchanged(start, -1, method, first, 1, 0);
            unchanged(start, -1, method, first, 0, start.length + 1);
            unchanged(start, -1, method, first, MIN, MAX);
        }
    }

    private static void refusesStretches(Start start, String method, int low, int high) {
        for (int[] pair : pairs(start.length, false)) {
            unchanged(start, -2, method, low, pair[0], pair[1]);
            unchanged(start, -2, method, high, pair[0], pair[1]);
        }
    }

    private static void refusesOnly(String method, Iterable<Integer> bad) {
        for (Start start : Start.values()) {
            for (int argument : bad) {
                unchanged(start, -1, method, argument);
            }
        }
    }

    private static void acceptsTheEmptyText() {
        sentence = "accepts: 1 if name 0 derives the whole text, here the empty one";
        unchanged(Start.NEW, 0, "accepts");
        unchanged(Start.RULES_ALONE, 1, "accepts");
        GllRecogniser x = new GllRecogniser();
        x.rule(0, row(1, 1, 1));
        answers("no rule for name 1", x, 0, "accepts");
        x.rule(1, row());
        answers("three times nothing", x, 1, "accepts");
        x.push(A);
        answers("a letter more", x, 0, "accepts");
        x.pop();
        x.drop(1);
        answers("the empty right side dropped", x, 0, "accepts");
    }

    private static void acceptsTheFullText() {
        sentence = "accepts: 1 if name 0 derives the whole text, here of 8 letters";
        unchanged(Start.TEXT_ALONE, 0, "accepts");
        unchanged(Start.FULL, 0, "accepts");
        GllRecogniser x = withText(A, A, A, A, B, B, B, B);
        x.rule(0, row(A, 0, B));
        answers("without an end", x, 0, "accepts");
        x.rule(0, row(A, B));
        answers("the whole", x, 1, "accepts");
        x.pop();
        answers("the last letter is missing", x, 0, "accepts");
        x.push(C);
        answers("another last letter", x, 0, "accepts");
        x.write(8, 3 * 40 + 1 + 2 * 2187);
        answers("another first letter", x, 0, "accepts");
    }

    private static void acceptsByNameZeroAlone() {
        sentence = "accepts: 1 if name 0 derives the whole text, otherwise 0";
        for (int name = 0; name < 5; name++) {
            GllRecogniser x = withText(C, C, C);
            x.rule(name, row(C, C, C));
            answers("name " + name, x, name == 0 ? 1 : 0, "accepts");
            answers("name " + name, x, 1, "fits", name, 0, 3);
            x.push(C);
            answers("name " + name + ", only a part", x, 0, "accepts");
        }
    }

    private static void fitsOfABadSign() {
        sentence = "fits: -1 if sign is not good, whatever the stretch";
        for (Start start : Start.values()) {
            refusesFirst(start, "fits", outside(0, 7));
        }
    }

    private static void fitsOutsideTheText() {
        sentence = "fits: -2 unless 0 <= i <= j <= length()";
        for (Start start : Start.values()) {
            refusesStretches(start, "fits", 0, 7);
        }
    }

    private static void fitsAtTheBorders() {
        sentence = "fits: 1 if the sign fits the stretch, otherwise 0";
        for (int[] pair : pairs(8, true)) {
            int i = pair[0];
            int j = pair[1];
            unchanged(Start.FULL, i == j ? 1 : 0, "fits", 0, i, j);
            unchanged(Start.FULL, j == i + 1 ? 1 : 0, "fits", 2, i, j);
            unchanged(Start.FULL, 1, "fits", 3, i, j);
            unchanged(Start.FULL, j == i + 1 && i < 2 ? 1 : 0, "fits", 5, i, j);
            unchanged(Start.FULL, i == 7 && j == 8 ? 1 : 0, "fits", 7, i, j);
            unchanged(Start.TEXT_ALONE, 0, "fits", 3, i, j);
        }
        unchanged(Start.FULL, 1, "fits", 0, 0, 4);
        unchanged(Start.FULL, 1, "fits", 1, 0, 6);
        unchanged(Start.FULL, 1, "fits", 4, 4, 8);
        unchanged(Start.RULES_ALONE, 1, "fits", 0, 0, 0);
        unchanged(Start.RULES_ALONE, 0, "fits", 4, 0, 0);
        unchanged(Start.RULES_ALONE, 0, "fits", 5, 0, 0);
    }

    private static void endsOfABadSign() {
        sentence = "ends: -1 if sign is not good, whatever the place";
        for (Start start : new Start[] {Start.NEW, Start.SOME, Start.FULL}) {
            for (int sign : outside(0, 7)) {
                unchanged(start, -1, "ends", sign, 0);
                unchanged(start, -1, "ends", sign, start.length + 1);
                unchanged(start, -1, "ends", sign, MIN);
                unchanged(start, -1, "ends", sign, MAX);
            }
        }
    }

    private static void endsOutsideTheText() {
        sentence = "ends: -2 if i is not in 0 .. length()";
        for (Start start : Start.values()) {
            for (int i : outside(0, start.length)) {
                unchanged(start, -2, "ends", 0, i);
                unchanged(start, -2, "ends", 7, i);
            }
        }
    }

    private static void endsAtTheBorders() {
        sentence = "ends: The set, as the sum of 2^j, of all j such that the sign fits (i, j)";
        for (int length = 0; length <= 8; length++) {
            GllRecogniser x = made(12, length);
            for (int i = 0; i <= length; i++) {
                answers(length + " letters, all ends", x, (2 << length) - (1 << i), "ends", 3, i);
                answers(length + " letters, the next", x, i < length ? 2 << i : 0, "ends", 2, i);
            }
            answers(length + " letters, only here", x, 1 << length, "ends", 0, length);
        }
        unchanged(Start.FULL, 1 + 16, "ends", 0, 0);
        unchanged(Start.FULL, 256, "ends", 7, 7);
        unchanged(Start.FULL, 0, "ends", 7, 8);
        unchanged(Start.FULL, 128 + 256, "ends", 4, 4);
        unchanged(Start.TEXT_ALONE, 0, "ends", 0, 8);
        unchanged(Start.RULES_ALONE, 1, "ends", 3, 0);
    }

    private static void ruleFitsOfNoRule() {
        sentence = "ruleFits: -1 if there is no such rule, whatever the stretch";
        for (Start start : Start.values()) {
            refusesFirst(start, "ruleFits", outside(0, start.rules - 1));
        }
    }

    private static void ruleFitsOutsideTheText() {
        sentence = "ruleFits: -2 unless 0 <= i <= j <= length()";
        for (Start start : new Start[] {Start.RULES_ALONE, Start.SOME, Start.NEARLY_FULL, Start.FULL}) {
            refusesStretches(start, "ruleFits", 0, start.rules - 1);
        }
    }

    private static void ruleFitsAtTheBorders() {
        sentence = "ruleFits: 1 if the rule fits the stretch, otherwise 0";
        for (int[] pair : pairs(8, true)) {
            int i = pair[0];
            int j = pair[1];
            unchanged(Start.FULL, 0, "ruleFits", 0, i, j);
            unchanged(Start.FULL, i == j ? 1 : 0, "ruleFits", 1, i, j);
            unchanged(Start.FULL, i < j ? 1 : 0, "ruleFits", 7, i, j);
            unchanged(Start.FULL, 0, "ruleFits", 11, i, j);
        }
        unchanged(Start.FULL, 1, "ruleFits", 0, 0, 4);
        unchanged(Start.FULL, 1, "ruleFits", 11, 5, 8);
        unchanged(Start.RULES_ALONE, 0, "ruleFits", 0, 0, 0);
        unchanged(Start.RULES_ALONE, 1, "ruleFits", 1, 0, 0);
        unchanged(Start.RULES_ALONE, 1, "ruleFits", 3, 0, 0);
        unchanged(Start.RULES_ALONE, 0, "ruleFits", 11, 0, 0);
    }

    private static void stretchesFromNoneToAll() {
        sentence = "stretches: How many stretches (i, j) the sign fits, each pair counted for itself, empty ones too";
        int[] due = {9 + 3, 9 + 4, 8, 45, 6, 3, 3, 2};
        int[] dueOfNoText = {1, 1, 0, 1, 0, 0, 0, 0};
        for (int sign = 0; sign < 8; sign++) {
            unchanged(Start.FULL, due[sign], "stretches", sign);
            unchanged(Start.RULES_ALONE, dueOfNoText[sign], "stretches", sign);
            unchanged(Start.TEXT_ALONE, sign < 5 ? 0 : due[sign], "stretches", sign);
            unchanged(Start.NEW, 0, "stretches", sign);
        }
        for (int length = 0; length <= 8; length++) {
            answers(length + " letters", made(12, length), (length + 1) * (length + 2) / 2, "stretches", 3);
        }
    }

    private static void stretchesOfABadSign() {
        sentence = "stretches: -1 if it is not good";
        refusesOnly("stretches", outside(0, 7));
    }

    private static void longestFromNoneToEight() {
        sentence = "longest: The greatest length of a stretch that the sign fits; -2 if it fits none";
        int[] due = {4, 6, 1, 8, 4, 1, 1, 1};
        int[] dueOfNoText = {0, 0, -2, 0, -2, -2, -2, -2};
        for (int sign = 0; sign < 8; sign++) {
            unchanged(Start.FULL, due[sign], "longest", sign);
            unchanged(Start.RULES_ALONE, dueOfNoText[sign], "longest", sign);
            unchanged(Start.TEXT_ALONE, sign < 5 ? -2 : 1, "longest", sign);
            unchanged(Start.NEW, -2, "longest", sign);
        }
        for (int length = 0; length <= 8; length++) {
            GllRecogniser x = made(12, length);
            answers(length + " letters, all of them", x, length, "longest", 3);
            answers(length + " letters, none is c", x, length < 7 ? -2 : 1, "longest", 7);
            x.write(length, power(length) - 1);
            answers(length + " letters, only empty stretches", x, 0, "longest", 0);
        }
    }

    private static void longestOfABadSign() {
        sentence = "longest: -1 if it is not good";
        refusesOnly("longest", outside(0, 7));
    }

    private static void emptyInEveryText() {
        sentence = "empty: 1 if the name derives the empty row, otherwise 0";
        int[] due = {1, 1, 0, 1, 0};
        for (int name = 0; name < 5; name++) {
            unchanged(Start.NEW, 0, "empty", name);
            unchanged(Start.TEXT_ALONE, 0, "empty", name);
            unchanged(Start.RULES_ALONE, due[name], "empty", name);
            unchanged(Start.NEARLY_FULL, due[name], "empty", name);
            unchanged(Start.FULL, due[name], "empty", name);
            for (int length = 0; length <= 8; length++) {
                answers(length + " letters", made(12, length), due[name], "empty", name);
            }
        }
    }

    private static void emptyOfABadName() {
        sentence = "empty: -1 if name is not good";
        refusesOnly("empty", outside(0, 4));
        refusesOnly("empty", List.of(A, B, C));
    }

    private static void waysFromNoneToTwelve() {
        sentence = "ways: How many rules fit the stretch whose left side is the name";
        for (int rules = 0; rules <= 12; rules++) {
            for (int name : inside(0, 4)) {
                GllRecogniser x = withText(LETTERS);
                for (int r = 0; r < rules; r++) {
                    x.rule(name, r % 2 == 0 ? row() : row(name, name));
                }
                answers(rules + " rules at the start", x, rules, "ways", name, 0, 0);
                answers(rules + " rules at the end", x, rules, "ways", name, 8, 8);
                answers(rules + " rules, not empty", x, 0, "ways", name, 0, 8);
                answers(rules + " rules, another name", x, 0, "ways", (name + 1) % 5, 0, 0);
            }
        }
        unchanged(Start.NEW, 0, "ways", 0, 0, 0);
        unchanged(Start.RULES_ALONE, 2, "ways", 1, 0, 0);
        unchanged(Start.TEXT_ALONE, 0, "ways", 0, 0, 8);
        unchanged(Start.FULL, 1, "ways", 0, 0, 0);
        unchanged(Start.FULL, 2, "ways", 1, 8, 8);
        unchanged(Start.FULL, 1, "ways", 1, 0, 6);
        unchanged(Start.FULL, 1, "ways", 3, 0, 8);
        unchanged(Start.FULL, 0, "ways", 4, 0, 8);
        unchanged(Start.FULL, 1, "ways", 4, 4, 8);
    }

    private static void waysOfABadName() {
        sentence = "ways: -1 if name is not good, whatever the stretch";
        for (Start start : Start.values()) {
            refusesFirst(start, "ways", outside(0, 4));
        }
    }

    private static void waysOutsideTheText() {
        sentence = "ways: -2 unless 0 <= i <= j <= length()";
        for (Start start : Start.values()) {
            refusesStretches(start, "ways", 0, 4);
        }
    }

    private static void nextLetterOfAFullText() {
        sentence = "nextLetter: -1 if the text has 8 letters";
        unchanged(Start.TEXT_ALONE, -1, "nextLetter");
        unchanged(Start.FULL, -1, "nextLetter");
        GllRecogniser x = new GllRecogniser();
        x.rule(0, row(0, A));
        x.rule(0, row(A));
        for (int length = 0; length < 8; length++) {
            answers(length + " letters", x, A, "nextLetter");
            x.push(A);
        }
        answers("8 letters", x, -1, "nextLetter");
        x.pop();
        answers("7 letters again", x, A, "nextLetter");
        x.clear();
        answers("7 letters, no rules", x, 0, "nextLetter");
        x.push(A);
        answers("8 letters, no rules", x, -1, "nextLetter");
    }

    private static void nextLetterIsTheLeast() {
        sentence = "nextLetter: otherwise the least letter c such that name 0 derives the text followed by c";
        unchanged(Start.SOME, B, "nextLetter");
        for (int length = 0; length < 8; length++) {
            for (int set = 0; set < 8; set++) {
                GllRecogniser x = made(0, length);
                // Name 2 stands for nothing behind the new letter.
                x.rule(0, row(4, 1, 2));
                x.rule(2, row());
                x.rule(4, row(4, 3));
                x.rule(4, row());
                for (int letter = C; letter >= A; letter--) {
                    x.rule(3, row(letter));
                    if ((set >> (letter - A) & 1) == 1) {
                        x.rule(1, row(letter));
                    }
                }
                int least = set == 0 ? 0 : A + Integer.numberOfTrailingZeros(set);
                answers(length + " letters, set " + set, x, least, "nextLetter");
            }
        }
    }

    private static void nextLetterIfThereIsNone() {
        sentence = "nextLetter: 0 if there is none";
        unchanged(Start.NEW, 0, "nextLetter");
        unchanged(Start.RULES_ALONE, 0, "nextLetter");
        unchanged(Start.NEARLY_FULL, 0, "nextLetter");
        for (int name = 0; name < 5; name++) {
            GllRecogniser x = withText(B);
            x.rule(name, row(B, C));
            answers("name 0 alone counts, not " + name, x, name == 0 ? C : 0, "nextLetter");
        }
        GllRecogniser x = withText(A, A, B);
        x.rule(0, row(A, A, B));
        answers("the text, but nothing longer", x, 0, "nextLetter");
    }
}
