import java.util.ArrayList;
import java.util.Arrays;
import java.util.List;

/** Each sentence of promises 1 to 9 that names a boundary case, with a test of its own. */
public final class ChangesBoundaryTest extends Boundaries {
    public static void main(String[] args) {
        newHasNoRules();
        newHasAnEmptyText();
        ruleGoesBehindAllOthers();
        ruleReadsDigits();
        ruleWithABadName();
        ruleWithABadRightSide();
        ruleBehindTwelve();
        ruleOrderOfTests();
        dropMovesLaterRules();
        dropOfNoRule();
        dropDownToNone();
        clearTakesAll();
        rulesFromNoneToTwelve();
        pushOfNoLetter();
        pushBehindEight();
        pushOrderOfTests();
        popOfTheEmptyText();
        popFromEightToNone();
        writeWithABadCount();
        writeWithABadCode();
        writeOrderOfTests();
        writeHighestDigitFirst();
        writeSetsTheWholeText();
        lengthFromNoneToEight();
        finish();
    }

    private static void newHasNoRules() {
        sentence = "GllRecogniser(): No rules";
        unchanged(Start.NEW, 0, "rules");
        unchanged(Start.NEW, 0, "clear");
        unchanged(Start.NEW, -1, "drop", 0);
        unchanged(Start.NEW, -1, "ruleFits", 0, 0, 0);
        unchanged(Start.NEW, 0, "nextLetter");
        for (int name = 0; name < 5; name++) {
            unchanged(Start.NEW, 0, "empty", name);
            unchanged(Start.NEW, 0, "ways", name, 0, 0);
        }
        answers("the first rule", new GllRecogniser(), 0, "rule", 0, 0);
    }

    private static void newHasAnEmptyText() {
        sentence = "GllRecogniser(): the text is empty";
        unchanged(Start.NEW, 0, "length");
        unchanged(Start.NEW, -1, "pop");
        unchanged(Start.NEW, 0, "write", 0, 0);
        for (int sign = 0; sign < 8; sign++) {
            unchanged(Start.NEW, 0, "fits", sign, 0, 0);
            unchanged(Start.NEW, -2, "fits", sign, 0, 1);
            unchanged(Start.NEW, 0, "ends", sign, 0);
            unchanged(Start.NEW, -2, "ends", sign, 1);
            unchanged(Start.NEW, 0, "stretches", sign);
            unchanged(Start.NEW, -2, "longest", sign);
        }
        answers("the first letter", new GllRecogniser(), 1, "push", A);
    }

    private static void ruleGoesBehindAllOthers() {
        sentence = "rule: Puts a rule in, behind all others; otherwise answers its number";
        for (int rules = 0; rules < 12; rules++) {
            GllRecogniser x = made(rules, 8);
            answers(rules + " rules", x, rules, "rule", RULES[rules][0], RULES[rules][1]);
            looksLike(rules + " rules and one", x, picture(made(rules + 1, 8)));
            GllRecogniser y = made(rules, 8);
            y.rule(4, row(C, C));
            answers(rules + " rules, the last of them", y, 1, "ruleFits", rules, 6, 8);
            answers(rules + " rules, the last of them", y, 0, "ruleFits", rules, 0, 0);
            answers(rules + " rules, and no more", y, -1, "ruleFits", rules + 1, 0, 0);
        }
    }

    /** Each name has a row of two letters of its own, so a right side of three signs is at most 6 letters long. */
    private static void ruleReadsDigits() {
        sentence = "rule: the digits in base 9 are s1 + 1, .., sk + 1 (s1 + 1 the first digit; 0 for the empty row)";
        int[][] derived = {{B, A}, {A, A}, {B, B}, {C, C}, {A, B}, {A}, {B}, {C}};
        for (int[] signs : allRows()) {
            GllRecogniser x = new GllRecogniser();
            for (int name = 0; name < 5; name++) {
                x.rule(name, row(derived[name]));
            }
            answers(Arrays.toString(signs), x, 5, "rule", 4, row(signs));
            for (int sign : signs) {
                for (int letter : derived[sign]) {
                    x.push(letter);
                }
            }
            answers(Arrays.toString(signs), x, 1, "ruleFits", 5, 0, x.length());
            // Name 4 may come back to itself, but never with fewer letters than its own row of two.
            boolean comesBack = Arrays.stream(signs).anyMatch(sign -> sign == 4);
            if (!comesBack && x.length() > 0) {
                answers(Arrays.toString(signs) + " cut short", x, 0, "ruleFits", 5, 0, x.length() - 1);
                answers(Arrays.toString(signs) + " cut short", x, 0, "ruleFits", 5, 1, x.length());
            }
        }
    }

    private static List<int[]> allRows() {
        List<int[]> rows = new ArrayList<>();
        rows.add(new int[0]);
        for (int from = 0, count = 1; count <= 3; count++) {
            int until = rows.size();
            for (; from < until; from++) {
                for (int sign = 0; sign < 8; sign++) {
                    int[] longer = Arrays.copyOf(rows.get(from), count);
                    longer[count - 1] = sign;
                    rows.add(longer);
                }
            }
        }
        check(rows.size() == 1 + 8 + 64 + 512, "the test has " + rows.size() + " right sides");
        return rows;
    }

    private static void ruleWithABadName() {
        sentence = "rule: -1 if name is not good";
        for (Start start : new Start[] {Start.NEW, Start.SOME, Start.FULL}) {
            for (int name : outside(0, 4)) {
                unchanged(start, -1, "rule", name, 0);
                unchanged(start, -1, "rule", name, row(C, C, C));
            }
        }
        for (int name = 0; name <= 4; name++) {
            answers("a good name", Start.SOME.make(), 4, "rule", name, 0);
        }
    }

    private static void ruleWithABadRightSide() {
        sentence = "rule: -2 if right is not such a number for at most 3 signs";
        int[] bad = {9, 18, 63, 72, 81, 82, 89, 90, 99, 162, 163, 170, 171, 639, 648, 649, 656, 657, 720};
        int[] good = {0, 1, 8, 10, 17, 19, 71, 73, 80, 91, 98, 100, 172, 179, 647, 658, 719, 721, 728};
        int[] tooLong = {729, 730, 738, 819, 820, 821, 6559, 6560, 6561, 6562, 7381, 59049, 65536, 65537, 531441};
        for (Start start : new Start[] {Start.NEW, Start.SOME, Start.FULL}) {
            for (int right : bad) {
                unchanged(start, -2, "rule", 0, right);
            }
            for (int right : tooLong) {
                unchanged(start, -2, "rule", 4, right);
            }
            for (int right : outside(0, 728)) {
                unchanged(start, -2, "rule", 2, right);
            }
        }
        for (int right : good) {
            for (int name : inside(0, 4)) {
                answers("a good right side", Start.SOME.make(), 4, "rule", name, right);
            }
        }
    }

    private static void ruleBehindTwelve() {
        sentence = "rule: -3 if there are 12 rules";
        for (int name : inside(0, 4)) {
            for (int right : new int[] {0, 1, 8, 10, 80, 91, 728}) {
                unchanged(Start.RULES_ALONE, -3, "rule", name, right);
                unchanged(Start.FULL, -3, "rule", name, right);
                GllRecogniser x = Start.NEARLY_FULL.make();
                answers("the twelfth", x, 11, "rule", name, right);
                answers("the thirteenth", x, -3, "rule", name, right);
                x.drop(0);
                answers("room again", x, 11, "rule", name, right);
                answers("and full again", x, -3, "rule", name, right);
            }
        }
    }

    private static void ruleOrderOfTests() {
        sentence = "rule: the tests are made in the order named";
        for (int name : new int[] {MIN, -1, 5, MAX}) {
            for (int right : new int[] {MIN, -1, 9, 729, MAX}) {
                unchanged(Start.NEW, -1, "rule", name, right);
                unchanged(Start.FULL, -1, "rule", name, right);
                unchanged(Start.FULL, -2, "rule", 0, right);
            }
            unchanged(Start.FULL, -1, "rule", name, 0);
        }
    }

    private static void dropMovesLaterRules() {
        sentence = "drop: Takes a rule out; later ones get numbers less by one; otherwise answers how many are left";
        for (int rules = 1; rules <= 12; rules++) {
            for (int dropped = 0; dropped < rules; dropped++) {
                GllRecogniser x = made(rules, 8);
                answers(rules + " rules", x, rules - 1, "drop", dropped);
                GllRecogniser without = withText(LETTERS);
                for (int r = 0; r < rules; r++) {
                    if (r != dropped) {
                        without.rule(RULES[r][0], RULES[r][1]);
                    }
                }
                looksLike(rules + " rules without rule " + dropped, x, picture(without));
            }
        }
    }

    private static void dropOfNoRule() {
        sentence = "drop: -1 if there is no such rule";
        for (Start start : Start.values()) {
            for (int rule : outside(0, start.rules - 1)) {
                unchanged(start, -1, "drop", rule);
            }
        }
    }

    private static void dropDownToNone() {
        sentence = "drop: otherwise answers how many are left";
        for (int end = 0; end < 2; end++) {
            GllRecogniser x = Start.FULL.make();
            for (int left = 11; left >= 0; left--) {
                answers("the last number is now too large", x, -1, "drop", left + 1);
                answers(left + " left", x, left, "drop", end * left);
                answers(left + " left", x, left, "rules");
            }
            answers("of none", x, -1, "drop", 0);
            looksLike("all dropped", x, pictureOf(Start.TEXT_ALONE));
        }
    }

    private static void clearTakesAll() {
        sentence = "clear: Takes all rules away; answers how many there were";
        for (int rules = 0; rules <= 12; rules++) {
            for (int length : inside(0, 8)) {
                GllRecogniser x = made(rules, length);
                answers(rules + " rules", x, rules, "clear");
                answers(rules + " rules, a second time", x, 0, "clear");
                looksLike(rules + " rules cleared", x, picture(made(0, length)));
            }
        }
    }

    private static void rulesFromNoneToTwelve() {
        sentence = "rules: How many rules there are";
        for (Start start : Start.values()) {
            unchanged(start, start.rules, "rules");
        }
        for (int rules = 0; rules <= 12; rules++) {
            answers(rules + " rules", made(rules, 0), rules, "rules");
        }
    }

    private static void pushOfNoLetter() {
        sentence = "push: -1 if letter is not in 5 .. 7";
        for (Start start : Start.values()) {
            for (int other : outside(5, 7)) {
                unchanged(start, -1, "push", other);
            }
            for (int name = 0; name < 5; name++) {
                unchanged(start, -1, "push", name);
            }
        }
        for (int letter = A; letter <= C; letter++) {
            GllRecogniser x = Start.SOME.make();
            answers("a letter", x, 4, "push", letter);
            answers("a letter", x, letter, "pop");
            looksLike("pushed and popped", x, pictureOf(Start.SOME));
        }
    }

    private static void pushBehindEight() {
        sentence = "push: Puts a letter at the end of the text; -2 if the text has 8; otherwise answers its length";
        for (int letter = A; letter <= C; letter++) {
            unchanged(Start.FULL, -2, "push", letter);
            unchanged(Start.TEXT_ALONE, -2, "push", letter);
        }
        for (int length = 0; length < 8; length++) {
            GllRecogniser x = made(12, length);
            answers(length + " letters", x, length + 1, "push", LETTERS[length]);
            looksLike(length + " letters and one", x, picture(made(12, length + 1)));
        }
        GllRecogniser x = Start.FULL.make();
        x.pop();
        answers("room again", x, 8, "push", A);
        answers("and full again", x, -2, "push", A);
    }

    private static void pushOrderOfTests() {
        sentence = "push: the tests are made in the order named";
        for (int other : new int[] {MIN, -1, 4, 8, MAX}) {
            unchanged(Start.FULL, -1, "push", other);
            unchanged(Start.TEXT_ALONE, -1, "push", other);
        }
    }

    private static void popOfTheEmptyText() {
        sentence = "pop: -1 if the text is empty";
        unchanged(Start.NEW, -1, "pop");
        unchanged(Start.RULES_ALONE, -1, "pop");
        GllRecogniser x = made(12, 1);
        answers("one letter", x, A, "pop");
        answers("then none", x, -1, "pop");
        answers("and none again", x, -1, "pop");
        answers("a letter after it", x, 1, "push", C);
        answers("and away again", x, C, "pop");
        looksLike("popped too often", x, pictureOf(Start.RULES_ALONE));
    }

    private static void popFromEightToNone() {
        sentence = "pop: Takes the last letter away; otherwise answers it";
        GllRecogniser x = Start.FULL.make();
        for (int length = 7; length >= 0; length--) {
            answers(length + 1 + " letters", x, LETTERS[length], "pop");
            answers(length + 1 + " letters", x, length, "length");
            GllRecogniser y = made(12, length + 1);
            y.pop();
            looksLike(length + 1 + " letters without the last", y, picture(made(12, length)));
        }
    }

    private static void writeWithABadCount() {
        sentence = "write: -1 if count is not in 0 .. 8";
        for (Start start : Start.values()) {
            for (int count : outside(0, 8)) {
                unchanged(start, -1, "write", count, 0);
                unchanged(start, -1, "write", count, 1);
            }
        }
        for (int count : inside(0, 8)) {
            answers("a good count", Start.SOME.make(), count, "write", count, 0);
        }
    }

    private static void writeWithABadCode() {
        sentence = "write: -2 if code is not in 0 .. 3^count - 1";
        for (Start start : new Start[] {Start.NEW, Start.SOME, Start.FULL}) {
            for (int count = 0; count <= 8; count++) {
                for (int code : outside(0, power(count) - 1)) {
                    unchanged(start, -2, "write", count, code);
                }
                for (int code : inside(0, power(count) - 1)) {
                    answers("a good code", start.make(), count, "write", count, code);
                }
            }
        }
    }

    private static void writeOrderOfTests() {
        sentence = "write: the tests are made in the order named";
        for (int count : new int[] {MIN, -1, 9, MAX}) {
            for (int code : new int[] {MIN, -1, TEXTS, 3 * TEXTS, MAX}) {
                unchanged(Start.SOME, -1, "write", count, code);
            }
        }
    }

    private static void writeHighestDigitFirst() {
        sentence = "write: 5 + d for the digits d of code in base 3, the first letter from the highest digit, count letters";
        for (int count = 0; count <= 8; count++) {
            for (int code : inside(0, power(count) - 1)) {
                dueText(count, code);
            }
            for (int digit = 0; digit < count; digit++) {
                dueText(count, power(digit));
                dueText(count, 2 * power(digit));
            }
        }
        for (int code = 0; code < TEXTS; code++) {
            dueText(8, code);
        }
    }

    private static void dueText(int count, int code) {
        GllRecogniser x = new GllRecogniser();
        answers("a good code", x, count, "write", count, code);
        for (int k = 0; k < count; k++) {
            answers(count + " letters of " + code, x, 5 + code / power(k) % 3, "pop");
        }
        answers(count + " letters of " + code, x, -1, "pop");
    }

    private static void writeSetsTheWholeText() {
        sentence = "write: Sets the whole text; otherwise answers count";
        for (Start start : Start.values()) {
            for (int count = 0; count <= 8; count++) {
                GllRecogniser x = start.make();
                int code = 0;
                for (int k = 0; k < count; k++) {
                    code = code * 3 + LETTERS[k] - 5;
                }
                answers(start + "", x, count, "write", count, code);
                looksLike(start + " with " + count + " letters", x, picture(made(start.rules, count)));
            }
        }
    }

    private static void lengthFromNoneToEight() {
        sentence = "length: How many letters the text has";
        for (Start start : Start.values()) {
            unchanged(start, start.length, "length");
        }
        for (int length = 0; length <= 8; length++) {
            answers("pushed", made(0, length), length, "length");
            GllRecogniser x = new GllRecogniser();
            x.write(length, 0);
            answers("written", x, length, "length");
        }
    }
}
