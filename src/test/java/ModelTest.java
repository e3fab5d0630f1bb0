import java.util.ArrayList;
import java.util.List;
import java.util.Random;

/**
 * Runs of calls on the class and on a model of the document side by side.
 *
 * The model knows nothing of places in a text: it works out, for each name, the set of all rows of at most 8 letters
 * that the name derives, and looks the stretches up in it.
 */
public final class ModelTest extends Checks {
    private static final int[] ODD = {MIN, -9, -2, -1, 9, 10, 12, 13, 31, 32, 729, MAX};

    public static void main(String[] args) {
        for (int run = 0; run < 300; run++) {
            randomRun(run);
        }
        for (int grammar = 0; grammar < 500; grammar++) {
            everyQuestion(grammar);
        }
        oddArgumentsEverywhere();
        finish();
    }

    /** Calls of all kinds, now and then with odd arguments, up to the last that an object is promised for. */
    private static void randomRun(int seed) {
        Random random = new Random(seed);
        GllRecogniser x = new GllRecogniser();
        Model model = new Model();
        for (int call = 0; call < MOST_CALLS; call++) {
            int method = pickMethod(random);
            int[] arguments = pickArguments(random, method, model);
            compare("run " + seed + ", call " + call, x, model, method, arguments);
        }
    }

    private static int pickMethod(Random random) {
        int pick = random.nextInt(40);
        if (pick < 5) {
            return 0;
        }
        if (pick < 9) {
            return 4;
        }
        // All rules go but seldom, or the lists would stay short.
        return pick == 9 ? 2 : pick < 12 ? 1 : pick < 14 ? 6 : 3 + random.nextInt(14);
    }

    private static int[] pickArguments(Random random, int method, Model model) {
        int length = model.text.size();
        int i = random.nextInt(length + 1);
        int j = i + random.nextInt(length + 1 - i);
        int name = random.nextInt(5);
        int sign = random.nextInt(8);
        int rule = model.rules.isEmpty() ? 0 : random.nextInt(model.rules.size());
        int count = random.nextInt(9);
        int[] arguments;
        switch (method) {
            case 0: arguments = new int[] {name, pickRight(random)}; break;
            case 1: arguments = new int[] {rule}; break;
            case 4: arguments = new int[] {5 + random.nextInt(3)}; break;
            case 6: arguments = new int[] {count, random.nextInt((int) Math.pow(3, count))}; break;
            case 9: arguments = new int[] {sign, i, j}; break;
            case 10: arguments = new int[] {sign, i}; break;
            case 11: arguments = new int[] {rule, i, j}; break;
            case 12: case 13: arguments = new int[] {sign}; break;
            case 14: arguments = new int[] {name}; break;
            case 15: arguments = new int[] {name, i, j}; break;
            default: arguments = new int[0];
        }
        for (int a = 0; a < arguments.length; a++) {
            if (random.nextInt(15) == 0) {
                arguments[a] = random.nextBoolean() ? ODD[random.nextInt(ODD.length)] : random.nextInt(12) - 1;
            }
        }
        return arguments;
    }

    private static int pickRight(Random random) {
        int right = 0;
        for (int k = random.nextInt(4); k > 0; k--) {
            right = right * 9 + 1 + (random.nextInt(3) == 0 ? 5 + random.nextInt(3) : random.nextInt(8));
        }
        return right;
    }

    private static void compare(String when, GllRecogniser x, Model model, int method, int[] arguments) {
        int a = arguments.length > 0 ? arguments[0] : 0;
        int b = arguments.length > 1 ? arguments[1] : 0;
        int c = arguments.length > 2 ? arguments[2] : 0;
        switch (method) {
            case 0: due(when + ": rule(" + a + ", " + b + ")", x.rule(a, b), model.rule(a, b)); break;
            case 1: due(when + ": drop(" + a + ")", x.drop(a), model.drop(a)); break;
            case 2: due(when + ": clear()", x.clear(), model.clear()); break;
            case 3: due(when + ": rules()", x.rules(), model.rules.size()); break;
            case 4: due(when + ": push(" + a + ")", x.push(a), model.push(a)); break;
            case 5: due(when + ": pop()", x.pop(), model.pop()); break;
            case 6: due(when + ": write(" + a + ", " + b + ")", x.write(a, b), model.write(a, b)); break;
            case 7: due(when + ": length()", x.length(), model.text.size()); break;
            case 8: due(when + ": accepts()", x.accepts(), model.accepts()); break;
            case 9: due(when + ": fits(" + a + ", " + b + ", " + c + ")", x.fits(a, b, c), model.fits(a, b, c)); break;
            case 10: due(when + ": ends(" + a + ", " + b + ")", x.ends(a, b), model.ends(a, b)); break;
            case 11: due(when + ": ruleFits(" + a + ", " + b + ", " + c + ")", x.ruleFits(a, b, c), model.ruleFits(a, b, c)); break;
            case 12: due(when + ": stretches(" + a + ")", x.stretches(a), model.stretches(a)); break;
            case 13: due(when + ": longest(" + a + ")", x.longest(a), model.longest(a)); break;
            case 14: due(when + ": empty(" + a + ")", x.empty(a), model.empty(a)); break;
            case 15: due(when + ": ways(" + a + ", " + b + ", " + c + ")", x.ways(a, b, c), model.ways(a, b, c)); break;
            default: due(when + ": nextLetter()", x.nextLetter(), model.nextLetter());
        }
    }

    /** One grammar and one text, and every question about them; an object for each kind and sign, for its 512 calls. */
    private static void everyQuestion(int seed) {
        Random random = new Random(100000 + seed);
        Model model = new Model();
        int rules = 3 + random.nextInt(10);
        for (int r = 0; r < rules; r++) {
            // The first names get most rules, so that they derive more than a row or two.
            model.rule(random.nextInt(1 + random.nextInt(5)), pickRight(random));
        }
        int count = seed % 9;
        model.write(count, random.nextInt((int) Math.pow(3, count)));
        for (int method = 8; method < 17; method++) {
            int firsts = method == 8 || method == 16 ? 1 : method == 11 ? rules : method < 14 ? 8 : 5;
            for (int first = 0; first < firsts; first++) {
                GllRecogniser x = copyOf(model);
                for (int i = 0; i <= count; i++) {
                    for (int j = i; j <= count; j++) {
                        compare("grammar " + seed, x, model, method, new int[] {first, i, j});
                    }
                }
            }
        }
    }

    private static GllRecogniser copyOf(Model model) {
        GllRecogniser x = new GllRecogniser();
        for (int[] rule : model.rules) {
            int right = 0;
            for (int k = 1; k < rule.length; k++) {
                right = right * 9 + rule[k] + 1;
            }
            x.rule(rule[0], right);
        }
        for (int letter : model.text) {
            x.push(letter);
        }
        return x;
    }

    /** Every method with odd numbers in all its arguments, when all is empty and when all is full. */
    private static void oddArgumentsEverywhere() {
        for (int full = 0; full < 2; full++) {
            for (int a : ODD) {
                for (int b : ODD) {
                    Model model = new Model();
                    for (int k = 0; k < 12 * full; k++) {
                        model.rule(k % 5, k % 2 == 0 ? 6 + k % 3 : 10);
                        model.push(5 + k % 3);
                    }
                    GllRecogniser x = copyOf(model);
                    for (int c : new int[] {MIN, -1, 0, 9, MAX}) {
                        for (int method : new int[] {0, 1, 4, 6, 9, 10, 11, 12, 13, 14, 15}) {
                            compare("odd", x, model, method, new int[] {a, b, c});
                            compare("odd", x, model, method, new int[] {0, b, c});
                        }
                    }
                }
            }
        }
    }

    private static final class Model {
        private static final int[] POWER = {1, 3, 9, 27, 81, 243, 729, 2187, 6561};

        /** The left side, then the signs of the right side. */
        final List<int[]> rules = new ArrayList<>();
        final List<Integer> text = new ArrayList<>();
        /** For each sign, each length and each row of letters, read as a number in base 3: is it derived? */
        private boolean[][][] derived = null;

        int rule(int name, int right) {
            if (name < 0 || name > 4) {
                return -1;
            }
            String digits = right == 0 ? "" : Integer.toString(right, 9);
            if (!digits.matches("[1-8]{0,3}")) {
                return -2;
            }
            if (rules.size() == 12) {
                return -3;
            }
            int[] rule = new int[1 + digits.length()];
            rule[0] = name;
            for (int k = 0; k < digits.length(); k++) {
                rule[k + 1] = digits.charAt(k) - '1';
            }
            rules.add(rule);
            derived = null;
            return rules.size() - 1;
        }

        int drop(int rule) {
            if (rule < 0 || rule >= rules.size()) {
                return -1;
            }
            rules.remove(rule);
            derived = null;
            return rules.size();
        }

        int clear() {
            int before = rules.size();
            rules.clear();
            derived = null;
            return before;
        }

        int push(int letter) {
            if (letter < 5 || letter > 7) {
                return -1;
            }
            if (text.size() == 8) {
                return -2;
            }
            text.add(letter);
            return text.size();
        }

        int pop() {
            return text.isEmpty() ? -1 : text.remove(text.size() - 1);
        }

        int write(int count, int code) {
            if (count < 0 || count > 8) {
                return -1;
            }
            if (code < 0 || code >= POWER[count]) {
                return -2;
            }
            text.clear();
            for (int k = 1; k <= count; k++) {
                text.add(5 + code / POWER[count - k] % 3);
            }
            return count;
        }

        int accepts() {
            return fits(0, 0, text.size());
        }

        int fits(int sign, int i, int j) {
            if (sign < 0 || sign > 7) {
                return -1;
            }
            if (!isStretch(i, j)) {
                return -2;
            }
            return derives(sign, text.subList(i, j));
        }

        int ends(int sign, int i) {
            if (sign < 0 || sign > 7) {
                return -1;
            }
            if (i < 0 || i > text.size()) {
                return -2;
            }
            int sum = 0;
            for (int j = i; j <= text.size(); j++) {
                sum += fits(sign, i, j) << j;
            }
            return sum;
        }

        int ruleFits(int rule, int i, int j) {
            if (rule < 0 || rule >= rules.size()) {
                return -1;
            }
            if (!isStretch(i, j)) {
                return -2;
            }
            return signsFit(rules.get(rule), 1, i, j) ? 1 : 0;
        }

        private boolean signsFit(int[] rule, int from, int i, int j) {
            if (from == rule.length) {
                return i == j;
            }
            for (int cut = i; cut <= j; cut++) {
                if (fits(rule[from], i, cut) == 1 && signsFit(rule, from + 1, cut, j)) {
                    return true;
                }
            }
            return false;
        }

        int stretches(int sign) {
            if (sign < 0 || sign > 7) {
                return -1;
            }
            int count = 0;
            for (int i = 0; i <= text.size(); i++) {
                count += Integer.bitCount(ends(sign, i));
            }
            return count;
        }

        int longest(int sign) {
            if (sign < 0 || sign > 7) {
                return -1;
            }
            for (int size = text.size(); size >= 0; size--) {
                for (int i = 0; i + size <= text.size(); i++) {
                    if (fits(sign, i, i + size) == 1) {
                        return size;
                    }
                }
            }
            return -2;
        }

        int empty(int name) {
            return name < 0 || name > 4 ? -1 : derives(name, List.of());
        }

        int ways(int name, int i, int j) {
            if (name < 0 || name > 4) {
                return -1;
            }
            if (!isStretch(i, j)) {
                return -2;
            }
            int count = 0;
            for (int rule = 0; rule < rules.size(); rule++) {
                if (rules.get(rule)[0] == name) {
                    count += ruleFits(rule, i, j);
                }
            }
            return count;
        }

        int nextLetter() {
            if (text.size() == 8) {
                return -1;
            }
            for (int letter = 5; letter < 8; letter++) {
                List<Integer> longer = new ArrayList<>(text);
                longer.add(letter);
                if (derives(0, longer) == 1) {
                    return letter;
                }
            }
            return 0;
        }

        private boolean isStretch(int i, int j) {
            return 0 <= i && i <= j && j <= text.size();
        }

        private int derives(int sign, List<Integer> letters) {
            if (derived == null) {
                deriveAll();
            }
            int code = 0;
            for (int letter : letters) {
                code = code * 3 + letter - 5;
            }
            return derived[sign][letters.size()][code] ? 1 : 0;
        }

        private void deriveAll() {
            derived = new boolean[8][][];
            for (int sign = 0; sign < 8; sign++) {
                derived[sign] = noRows();
                if (sign >= 5) {
                    derived[sign][1][sign - 5] = true;
                }
            }
            boolean grew = true;
            while (grew) {
                grew = false;
                for (int[] rule : rules) {
                    grew |= addAll(derived[rule[0]], rowsOf(rule));
                }
            }
        }

        private boolean[][] rowsOf(int[] rule) {
            boolean[][] rows = noRows();
            rows[0][0] = true;
            for (int k = 1; k < rule.length; k++) {
                rows = joined(rows, derived[rule[k]]);
            }
            return rows;
        }

        private static boolean[][] noRows() {
            boolean[][] rows = new boolean[9][];
            for (int size = 0; size <= 8; size++) {
                rows[size] = new boolean[POWER[size]];
            }
            return rows;
        }

        private static boolean addAll(boolean[][] to, boolean[][] from) {
            boolean grew = false;
            for (int size = 0; size <= 8; size++) {
                for (int code = 0; code < POWER[size]; code++) {
                    grew |= from[size][code] && !to[size][code];
                    to[size][code] |= from[size][code];
                }
            }
            return grew;
        }

        /** All rows of at most 8 letters that are a row of the first set followed by one of the second. */
        private static boolean[][] joined(boolean[][] first, boolean[][] second) {
            boolean[][] rows = noRows();
            for (int size = 0; size <= 8; size++) {
                for (int head = 0; head < POWER[size]; head++) {
                    for (int more = 0; first[size][head] && size + more <= 8; more++) {
                        for (int tail = 0; tail < POWER[more]; tail++) {
                            rows[size + more][head * POWER[more] + tail] |= second[more][tail];
                        }
                    }
                }
            }
            return rows;
        }
    }
}
