import java.util.ArrayList;
import java.util.Arrays;
import java.util.EnumMap;
import java.util.List;
import java.util.Map;
import java.util.TreeSet;

/**
 * What the tests of the boundary cases are made of.
 *
 * That a refused call or a question changes nothing is seen by holding the object's picture, what further calls show
 * of it, against the picture of an object that was made in the same way without that call.
 */
abstract class Boundaries extends Checks {
    /** All starts have the first so many of these rules. */
    static final int[][] RULES = {
        {0, row(A, 0, B)}, {0, row()}, {1, row(0)}, {1, row(1, 1)}, {2, row(A)}, {2, row(B)}, {2, row(C)},
        {3, row(2, 3)}, {3, row()}, {4, row(C)}, {4, row(4, 4)}, {4, row(2, 2, C)}};
    /** All starts have the first so many of these letters. */
    static final int[] LETTERS = {A, A, B, B, A, B, C, C};
    /** 3^8 texts of 8 letters. */
    static final int TEXTS = 6561;

    enum Start {
        NEW(0, 0), TEXT_ALONE(0, 8), RULES_ALONE(12, 0), SOME(4, 3), NEARLY_FULL(11, 7), FULL(12, 8);

        final int rules;
        final int length;

        Start(int rules, int length) {
            this.rules = rules;
            this.length = length;
        }

        GllRecogniser make() {
            return made(rules, length);
        }
    }

    private static final Map<Start, List<Integer>> PICTURES = new EnumMap<>(Start.class);

    /** The sentence that is being tested. */
    static String sentence = "";

    static GllRecogniser made(int rules, int length) {
        GllRecogniser x = new GllRecogniser();
        for (int r = 0; r < rules; r++) {
            x.rule(RULES[r][0], RULES[r][1]);
        }
        for (int k = 0; k < length; k++) {
            x.push(LETTERS[k]);
        }
        return x;
    }

    static GllRecogniser withText(int... letters) {
        GllRecogniser x = new GllRecogniser();
        for (int letter : letters) {
            x.push(letter);
        }
        return x;
    }

    static int call(GllRecogniser x, String method, int... a) {
        switch (method) {
            case "rule": return x.rule(a[0], a[1]);
            case "drop": return x.drop(a[0]);
            case "clear": return x.clear();
            case "rules": return x.rules();
            case "push": return x.push(a[0]);
            case "pop": return x.pop();
            case "write": return x.write(a[0], a[1]);
            case "length": return x.length();
            case "accepts": return x.accepts();
            case "fits": return x.fits(a[0], a[1], a[2]);
            case "ends": return x.ends(a[0], a[1]);
            case "ruleFits": return x.ruleFits(a[0], a[1], a[2]);
            case "stretches": return x.stretches(a[0]);
            case "longest": return x.longest(a[0]);
            case "empty": return x.empty(a[0]);
            case "ways": return x.ways(a[0], a[1], a[2]);
            case "nextLetter": return x.nextLetter();
            default: throw new IllegalArgumentException(method);
        }
    }

    static void answers(String when, GllRecogniser x, int want, String method, int... arguments) {
        due(sentence + " | " + when + ": " + method + Arrays.toString(arguments), call(x, method, arguments), want);
    }

    static void looksLike(String when, GllRecogniser x, List<Integer> want) {
        List<Integer> got = picture(x);
        check(got.equals(want), sentence + " | " + when + ": looks like " + got + ", due is " + want);
    }

    /** A refused call or a question: it is answered so, and changes nothing. */
    static void unchanged(Start start, int want, String method, int... arguments) {
        GllRecogniser x = start.make();
        answers(start + "", x, want, method, arguments);
        looksLike(start + " after " + method + Arrays.toString(arguments), x, pictureOf(start));
    }

    static List<Integer> pictureOf(Start start) {
        return PICTURES.computeIfAbsent(start, s -> picture(s.make()));
    }

    /** All that tells two states apart, in fewer calls than an object has. The object is used up by it. */
    static List<Integer> picture(GllRecogniser x) {
        List<Integer> seen = new ArrayList<>();
        int rules = x.rules();
        int length = x.length();
        seen.addAll(List.of(rules, length, x.accepts(), x.nextLetter()));
        for (int sign = 0; sign < 8; sign++) {
            for (int i = 0; i <= length; i++) {
                seen.add(x.ends(sign, i));
            }
        }
        addRules(seen, x, rules, length);
        for (int k = 0; k <= 8; k++) {
            seen.add(x.pop());
        }
        x.write(3, 5);
        addRules(seen, x, rules, 3);
        for (int k = rules; k <= 12; k++) {
            seen.add(x.rule(4, row(B, B)));
        }
        for (int k = 0; k <= 12; k++) {
            seen.add(x.drop(0));
        }
        return seen;
    }

    static void addRules(List<Integer> seen, GllRecogniser x, int rules, int length) {
        for (int rule = 0; rule < rules; rule++) {
            for (int j = 0; j <= length; j++) {
                seen.add(x.ruleFits(rule, 0, j));
            }
        }
        for (int name = 0; name < 5; name++) {
            seen.add(x.ways(name, 0, 0));
            seen.add(x.ways(name, 0, length));
        }
    }

    /** Next to the range on both sides, the ends of all ints, and what a narrow type or a shift would take for good. */
    static Iterable<Integer> outside(int low, int high) {
        TreeSet<Integer> all = new TreeSet<>(List.of(
            MIN, MIN + 1, MIN + low, MIN + high, low - 65536, low - 256, low - 32, low - 2, low - 1,
            high + 1, high + 2, low + 32, low + 256, low + 65536, high + 65536, MAX - 1, MAX));
        all.removeIf(n -> low <= n && n <= high);
        return all;
    }

    /** The ends of the range, and next to them. */
    static Iterable<Integer> inside(int low, int high) {
        TreeSet<Integer> all = new TreeSet<>(List.of(low, low + 1, high - 1, high));
        all.removeIf(n -> n < low || n > high);
        return all;
    }

    static Iterable<int[]> pairs(int length, boolean good) {
        List<int[]> pairs = new ArrayList<>();
        TreeSet<Integer> places = new TreeSet<>(List.of(
            MIN, -32, -1, 0, 1, length - 1, length, length + 1, length + 32, MAX));
        for (int i : places) {
            for (int j : places) {
                if (good == (0 <= i && i <= j && j <= length)) {
                    pairs.add(new int[] {i, j});
                }
            }
        }
        return pairs;
    }

    static int power(int count) {
        int power = 1;
        for (int k = 0; k < count; k++) {
            power *= 3;
        }
        return power;
    }
}
