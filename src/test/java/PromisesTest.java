import java.util.ArrayList;
import java.util.List;

/** Each promise of the document by hand: ordinary inputs, the edges it names, and wrong inputs. */
public final class PromisesTest extends Checks {
    public static void main(String[] args) {
        newObject();
        ruleNumbers();
        ruleRightSides();
        ruleRefusals();
        drop();
        clear();
        rules();
        push();
        pop();
        write();
        length();
        accepts();
        acceptsAnyKindOfGrammar();
        fits();
        ends();
        ruleFits();
        stretches();
        longest();
        empty();
        ways();
        nextLetter();
        questionsChangeNothing();
        refusedCallsChangeNothing();
        objectsAreApart();
        finish();
    }

    private static void dueState(String when, GllRecogniser x, List<Integer> want) {
        List<Integer> got = state(x);
        check(got.equals(want), when + ": the state is " + got + ", due is " + want);
    }

    private static void setText(GllRecogniser x, int... letters) {
        x.write(0, 0);
        for (int letter : letters) {
            x.push(letter);
        }
    }

    /** Enough questions to tell two states apart, and few enough to ask them twice in the 512 calls of an object. */
    private static List<Integer> state(GllRecogniser x) {
        int rules = x.rules();
        int length = x.length();
        List<Integer> all = new ArrayList<>(List.of(rules, length));
        for (int sign = 0; sign < 8; sign++) {
            for (int i = 0; i <= length; i++) {
                all.add(x.ends(sign, i));
            }
        }
        for (int rule = 0; rule < rules; rule++) {
            for (int j = 0; j <= length; j++) {
                all.add(x.ruleFits(rule, 0, j));
            }
        }
        for (int name = 0; name < 5; name++) {
            all.add(x.ways(name, 0, length));
        }
        return all;
    }

    private static GllRecogniser brackets() {
        GllRecogniser x = new GllRecogniser();
        x.rule(0, row(A, 0, B));
        x.rule(0, row());
        x.rule(1, row(0));
        x.rule(1, row(1, 1));
        return x;
    }

    private static void newObject() {
        GllRecogniser x = new GllRecogniser();
        due("new: rules()", x.rules(), 0);
        due("new: length()", x.length(), 0);
        due("new: pop()", x.pop(), -1);
        due("new: drop(0)", x.drop(0), -1);
        due("new: clear()", x.clear(), 0);
        due("new: accepts()", x.accepts(), 0);
        due("new: ends(0, 0)", x.ends(0, 0), 0);
        due("new: ends(5, 0)", x.ends(5, 0), 0);
        due("new: ruleFits(0, 0, 0)", x.ruleFits(0, 0, 0), -1);
        due("new: stretches(0)", x.stretches(0), 0);
        due("new: longest(0)", x.longest(0), -2);
        due("new: ways(0, 0, 0)", x.ways(0, 0, 0), 0);
        due("new: nextLetter()", x.nextLetter(), 0);
        due("new: fits(0, 0, 1)", x.fits(0, 0, 1), -2);
        for (int name = 0; name < 5; name++) {
            due("new: empty(" + name + ")", x.empty(name), 0);
        }
    }

    private static void ruleNumbers() {
        GllRecogniser x = new GllRecogniser();
        for (int r = 0; r < 12; r++) {
            due("rule " + r, x.rule(r % 5, row(A)), r);
        }
        due("rule, 13th", x.rule(0, row(A)), -3);
        due("rule, 13th again", x.rule(4, 0), -3);
        due("rules() after the 13th", x.rules(), 12);
        due("rule, full and a wrong right side", x.rule(0, 9), -2);
        due("rule, full and a wrong name", x.rule(5, 0), -1);
        x.drop(3);
        due("rule after a drop", x.rule(0, row(B)), 11);
        x.write(1, 1);
        due("the rule put in after a drop is the last", x.ruleFits(11, 0, 1), 1);
        due("the one before it is not it", x.ruleFits(10, 0, 1), 0);
        x.clear();
        due("rule after clear", x.rule(0, 0), 0);
    }

    /** Every number below and a little above 9^3: good just if no digit behind the first one is 0. */
    private static void ruleRightSides() {
        GllRecogniser x = new GllRecogniser();
        int good = 0;
        for (int right = -20; right < 7000; right++) {
            String digits = Integer.toString(right, 9);
            boolean isRow = right == 0 || right > 0 && digits.length() <= 3 && !digits.contains("0");
            if (isRow) {
                good++;
            }
            GllRecogniser each = new GllRecogniser();
            due("rule(2, " + right + ")", each.rule(2, right), isRow ? 0 : -2);
            due("rules() after rule(2, " + right + ")", each.rules(), isRow ? 1 : 0);
        }
        due("right sides in all", good, 1 + 8 + 64 + 512);
        due("rule, first sign first", x.rule(0, row(A, B, C)), 0);
        due("rule, two signs", x.rule(1, row(B, C)), 1);
        due("rule, one sign", x.rule(2, row(C)), 2);
        due("rule, no sign", x.rule(3, 0), 3);
        setText(x, A, B, C);
        due("ends of A B C", x.ends(0, 0), 8);
        due("ends of B C", x.ends(1, 1), 8);
        due("ends of B C elsewhere", x.ends(1, 0), 0);
        due("ends of C", x.ends(2, 2), 8);
        due("ends of the empty row", x.ends(3, 2), 4);
        setText(x, C, B, A);
        due("not from the back", x.ends(0, 0), 0);
    }

    private static void ruleRefusals() {
        GllRecogniser x = new GllRecogniser();
        int[] names = {-1, 5, 6, 7, 8, MIN, MAX};
        for (int name : names) {
            due("rule(" + name + ", 0)", x.rule(name, 0), -1);
            due("rule(" + name + ", 9)", x.rule(name, 9), -1);
        }
        int[] rights = {-1, 9, 18, 72, 81, 82, 90, 162, 720, 648, 729, 6561, MIN, MAX};
        for (int right : rights) {
            due("rule(0, " + right + ")", x.rule(0, right), -2);
        }
        due("rules() after refusals", x.rules(), 0);
        due("rule(4, 728)", x.rule(4, 728), 0);
        due("rule(4, 91)", x.rule(4, 91), 1);
        due("rule(4, 10)", x.rule(4, 10), 2);
    }

    private static void drop() {
        GllRecogniser x = new GllRecogniser();
        x.rule(0, row(A));
        x.rule(1, row(B));
        x.rule(2, row(C));
        x.rule(3, row());
        setText(x, A, B, C);
        due("drop(4)", x.drop(4), -1);
        due("drop(-1)", x.drop(-1), -1);
        due("drop(MIN)", x.drop(MIN), -1);
        due("drop(MAX)", x.drop(MAX), -1);
        due("rules() after refused drops", x.rules(), 4);
        due("drop(1)", x.drop(1), 3);
        due("the name of the dropped rule", x.stretches(1), 0);
        due("rule 0 stays", x.ruleFits(0, 0, 1), 1);
        due("rule 2 is now 1", x.ruleFits(1, 2, 3), 1);
        due("rule 3 is now 2", x.ruleFits(2, 1, 1), 1);
        due("there is no rule 3", x.ruleFits(3, 0, 0), -1);
        due("left sides move too", x.ways(2, 2, 3), 1);
        due("drop(3)", x.drop(3), -1);
        due("drop(2), the last", x.drop(2), 2);
        due("drop(0)", x.drop(0), 1);
        due("ways(2, 2, 3)", x.ways(2, 2, 3), 1);
        due("drop(0) again", x.drop(0), 0);
        due("drop(0) of none", x.drop(0), -1);
        due("length() after drops", x.length(), 3);
        for (int r = 0; r < 12; r++) {
            x.rule(0, row(A));
        }
        due("drop(12)", x.drop(12), -1);
        due("drop(11)", x.drop(11), 11);
        due("drop(0) of 11", x.drop(0), 10);
    }

    private static void clear() {
        GllRecogniser x = brackets();
        setText(x, A, B);
        due("clear()", x.clear(), 4);
        due("rules() after clear", x.rules(), 0);
        due("length() after clear", x.length(), 2);
        due("accepts() after clear", x.accepts(), 0);
        due("ends(0, 0) after clear", x.ends(0, 0), 0);
        due("ruleFits(0, 0, 0) after clear", x.ruleFits(0, 0, 0), -1);
        due("ends(5, 0) after clear", x.ends(5, 0), 2);
        due("clear() again", x.clear(), 0);
        for (int r = 0; r < 12; r++) {
            x.rule(1, 0);
        }
        due("clear() of 12", x.clear(), 12);
    }

    private static void rules() {
        GllRecogniser x = new GllRecogniser();
        x.rule(0, 0);
        due("rules() of 1", x.rules(), 1);
        x.rule(0, 0);
        due("rules(), the same rule twice", x.rules(), 2);
        x.drop(0);
        due("rules() after drop", x.rules(), 1);
        x.push(A);
        x.pop();
        due("rules() after push and pop", x.rules(), 1);
    }

    private static void push() {
        GllRecogniser x = new GllRecogniser();
        int[] others = {4, 8, 0, -1, MIN, MAX};
        for (int other : others) {
            due("push(" + other + ")", x.push(other), -1);
        }
        due("length() after refused pushes", x.length(), 0);
        for (int k = 0; k < 8; k++) {
            due("push " + k, x.push(5 + k % 3), k + 1);
        }
        due("push(5), the 9th", x.push(5), -2);
        due("push(4), the 9th", x.push(4), -1);
        due("push(8), the 9th", x.push(8), -1);
        due("length() after the 9th", x.length(), 8);
        due("ends(5, 6)", x.ends(5, 6), 128);
        due("ends(6, 7)", x.ends(6, 7), 256);
        due("ends(7, 5)", x.ends(7, 5), 64);
    }

    private static void pop() {
        GllRecogniser x = new GllRecogniser();
        due("pop() of none", x.pop(), -1);
        due("length() after pop of none", x.length(), 0);
        setText(x, A, C, B);
        due("pop()", x.pop(), B);
        due("length() after pop", x.length(), 2);
        due("stretches(6) after pop", x.stretches(6), 0);
        due("pop() again", x.pop(), C);
        x.push(B);
        due("pop() after push", x.pop(), B);
        due("pop(), the first", x.pop(), A);
        due("pop() of none again", x.pop(), -1);
    }

    private static void write() {
        GllRecogniser x = new GllRecogniser();
        int[] counts = {-1, 9, MIN, MAX, 100};
        for (int count : counts) {
            due("write(" + count + ", 0)", x.write(count, 0), -1);
            due("write(" + count + ", -1)", x.write(count, -1), -1);
        }
        int texts = 1;
        for (int count = 0; count <= 8; count++) {
            due("write(" + count + ", -1)", x.write(count, -1), -2);
            due("write(" + count + ", MIN)", x.write(count, MIN), -2);
            due("write(" + count + ", MAX)", x.write(count, MAX), -2);
            due("write(" + count + ", 3^count)", x.write(count, texts), -2);
            due("write(" + count + ", 3^count - 1)", x.write(count, texts - 1), count);
            due("length() after write", x.length(), count);
            due("stretches(7) after write", x.stretches(7), count);
            due("write(" + count + ", 0)", x.write(count, 0), count);
            due("stretches(5) after write", x.stretches(5), count);
            texts *= 3;
        }
        due("write(4, 0 * 27 + 2 * 9 + 1 * 3 + 1)", x.write(4, 22), 4);
        due("write(2, 9)", x.write(2, 9), -2);
        due("length() after a refused write", x.length(), 4);
        due("pop() 4", x.pop(), B);
        due("pop() 3", x.pop(), B);
        due("pop() 2", x.pop(), C);
        due("pop() 1", x.pop(), A);
        x.write(5, 7);
        due("write(0, 0)", x.write(0, 0), 0);
        due("length() after write(0, 0)", x.length(), 0);
    }

    private static void length() {
        GllRecogniser x = new GllRecogniser();
        x.push(C);
        due("length() of 1", x.length(), 1);
        x.write(8, 6560);
        due("length() of 8", x.length(), 8);
        x.pop();
        due("length() of 7", x.length(), 7);
        x.rule(0, 0);
        x.clear();
        due("length() after clear", x.length(), 7);
    }

    private static void accepts() {
        GllRecogniser x = brackets();
        due("accepts() the empty text", x.accepts(), 1);
        setText(x, A);
        due("accepts() a", x.accepts(), 0);
        setText(x, A, B);
        due("accepts() ab", x.accepts(), 1);
        setText(x, A, A, A, A, B, B, B, B);
        due("accepts() aaaabbbb", x.accepts(), 1);
        setText(x, A, B, A, B);
        due("accepts() abab: not name 0", x.accepts(), 0);
        due("fits(1, 0, 4): but name 1", x.fits(1, 0, 4), 1);
        setText(x, A, B, B);
        due("accepts() abb: not just a part", x.accepts(), 0);
    }

    private static void acceptsAnyKindOfGrammar() {
        GllRecogniser x = new GllRecogniser();
        x.rule(0, row(1, A));
        x.rule(1, row(2, B));
        x.rule(2, row(3, C));
        x.rule(3, row(0));
        x.rule(3, row());
        setText(x, C, B, A, C, B, A);
        due("a left side that comes back through four names", x.accepts(), 1);
        x.pop();
        due("the same, cut short", x.accepts(), 0);
        x.clear();
        x.rule(0, row(1, 0, A));
        x.rule(0, row(B));
        x.rule(1, row());
        setText(x, B, A, A, A, A, A, A, A);
        due("a left side that comes back behind an empty name", x.accepts(), 1);
        x.clear();
        x.rule(0, row(0, A, B));
        x.rule(0, row(C));
        setText(x, C, A, B, A, B, A, B);
        due("a rule that begins with its own name", x.accepts(), 1);
        x.clear();
        x.rule(0, row(A, B, 0));
        x.rule(0, row(C));
        setText(x, A, B, A, B, A, B, C);
        due("a rule that ends with its own name", x.accepts(), 1);
        x.clear();
        x.rule(0, row(1));
        x.rule(1, row(2));
        x.rule(2, row(0));
        setText(x, A);
        due("names that only lean on each other", x.accepts(), 0);
        due("nor are they empty", x.empty(0), 0);
        x.rule(2, row(A));
        due("a ring of names with a way out", x.accepts(), 1);
        x.clear();
        x.rule(0, row(0, 0, 0));
        x.rule(0, row(0, 0));
        x.rule(0, row());
        x.rule(0, row(A));
        setText(x, A, A, A, A, A, A, A, A);
        due("endlessly many ways", x.accepts(), 1);
        setText(x, A, A, A, B, A, A, A, A);
        due("endlessly many ways, and a letter none has", x.accepts(), 0);
    }

    private static void fits() {
        GllRecogniser x = brackets();
        setText(x, A, A, B, B, A, B);
        due("fits(0, 0, 4)", x.fits(0, 0, 4), 1);
        due("fits(0, 1, 3)", x.fits(0, 1, 3), 1);
        due("fits(0, 0, 3)", x.fits(0, 0, 3), 0);
        due("fits(0, 0, 6)", x.fits(0, 0, 6), 0);
        due("fits(1, 0, 6)", x.fits(1, 0, 6), 1);
        due("fits(0, 6, 6)", x.fits(0, 6, 6), 1);
        due("fits(2, 0, 0)", x.fits(2, 0, 0), 0);
        due("fits(5, 0, 1)", x.fits(5, 0, 1), 1);
        due("fits(5, 0, 2)", x.fits(5, 0, 2), 0);
        due("fits(5, 0, 0)", x.fits(5, 0, 0), 0);
        due("fits(5, 2, 3)", x.fits(5, 2, 3), 0);
        due("fits(6, 5, 6)", x.fits(6, 5, 6), 1);
        due("fits(7, 5, 6)", x.fits(7, 5, 6), 0);
        int[] signs = {-1, 8, MIN, MAX};
        for (int sign : signs) {
            due("fits(" + sign + ", 0, 0)", x.fits(sign, 0, 0), -1);
            due("fits(" + sign + ", 1, 0)", x.fits(sign, 1, 0), -1);
        }
        int[][] places = {{-1, 0}, {1, 0}, {6, 7}, {7, 7}, {0, 7}, {0, -1}, {-1, -1}, {MIN, MAX}, {MAX, MIN}, {MAX, MAX}, {MIN, 0}};
        for (int[] place : places) {
            due("fits(0, " + place[0] + ", " + place[1] + ")", x.fits(0, place[0], place[1]), -2);
            due("fits(7, " + place[0] + ", " + place[1] + ")", x.fits(7, place[0], place[1]), -2);
        }
    }

    private static void ends() {
        GllRecogniser x = brackets();
        setText(x, A, B, A, B, A, B, A, B);
        due("ends(0, 0)", x.ends(0, 0), 1 + 4);
        due("ends(1, 0)", x.ends(1, 0), 1 + 4 + 16 + 64 + 256);
        due("ends(1, 1)", x.ends(1, 1), 2);
        due("ends(1, 8)", x.ends(1, 8), 256);
        due("ends(2, 0)", x.ends(2, 0), 0);
        due("ends(5, 6)", x.ends(5, 6), 128);
        due("ends(5, 7)", x.ends(5, 7), 0);
        due("ends(6, 7)", x.ends(6, 7), 256);
        due("ends(6, 8)", x.ends(6, 8), 0);
        due("ends(0, 9)", x.ends(0, 9), -2);
        due("ends(0, -1)", x.ends(0, -1), -2);
        due("ends(0, MIN)", x.ends(0, MIN), -2);
        due("ends(0, MAX)", x.ends(0, MAX), -2);
        due("ends(8, 0)", x.ends(8, 0), -1);
        due("ends(-1, 9)", x.ends(-1, 9), -1);
        due("ends(MIN, 0)", x.ends(MIN, 0), -1);
        due("ends(MAX, -1)", x.ends(MAX, -1), -1);
        setText(x, A, B);
        due("ends(1, 0), a shorter text", x.ends(1, 0), 1 + 4);
        due("ends(1, 3), a shorter text", x.ends(1, 3), -2);
    }

    private static void ruleFits() {
        GllRecogniser x = brackets();
        setText(x, A, A, B, B);
        due("ruleFits(0, 0, 4)", x.ruleFits(0, 0, 4), 1);
        due("ruleFits(0, 1, 3)", x.ruleFits(0, 1, 3), 1);
        due("ruleFits(0, 0, 0)", x.ruleFits(0, 0, 0), 0);
        due("ruleFits(1, 0, 0)", x.ruleFits(1, 0, 0), 1);
        due("ruleFits(1, 4, 4)", x.ruleFits(1, 4, 4), 1);
        due("ruleFits(1, 1, 3)", x.ruleFits(1, 1, 3), 0);
        due("ruleFits(2, 1, 3)", x.ruleFits(2, 1, 3), 1);
        due("ruleFits(3, 1, 3)", x.ruleFits(3, 1, 3), 1);
        due("ruleFits(3, 1, 4)", x.ruleFits(3, 1, 4), 0);
        int[] none = {-1, 4, 12, MIN, MAX};
        for (int rule : none) {
            due("ruleFits(" + rule + ", 0, 0)", x.ruleFits(rule, 0, 0), -1);
            due("ruleFits(" + rule + ", 1, 0)", x.ruleFits(rule, 1, 0), -1);
        }
        int[][] places = {{-1, 0}, {1, 0}, {0, 5}, {5, 5}, {MIN, MAX}, {MAX, MAX}, {0, -1}};
        for (int[] place : places) {
            due("ruleFits(0, " + place[0] + ", " + place[1] + ")", x.ruleFits(0, place[0], place[1]), -2);
        }
    }

    private static void stretches() {
        GllRecogniser x = new GllRecogniser();
        x.rule(0, row());
        x.rule(0, row(0, 1));
        x.rule(1, row(A));
        x.rule(1, row(B));
        x.rule(1, row(C));
        x.rule(2, row(1, 1));
        due("stretches(0) of the empty text", x.stretches(0), 1);
        due("stretches(1) of the empty text", x.stretches(1), 0);
        x.write(8, 4321);
        due("stretches(0), all of them", x.stretches(0), 45);
        due("stretches(1)", x.stretches(1), 8);
        due("stretches(2)", x.stretches(2), 7);
        due("stretches(3)", x.stretches(3), 0);
        setText(x, A, C, A, A);
        due("stretches(5), each place for itself", x.stretches(5), 3);
        due("stretches(6)", x.stretches(6), 0);
        due("stretches(7)", x.stretches(7), 1);
        int[] signs = {-1, 8, MIN, MAX};
        for (int sign : signs) {
            due("stretches(" + sign + ")", x.stretches(sign), -1);
        }
    }

    private static void longest() {
        GllRecogniser x = brackets();
        due("longest(0) of the empty text", x.longest(0), 0);
        due("longest(2) of the empty text", x.longest(2), -2);
        setText(x, C, A, B, C, A, A, B, B);
        due("longest(0)", x.longest(0), 4);
        setText(x, A, A, B, B, C, A, B, C);
        due("longest(0), the first is longer", x.longest(0), 4);
        due("longest(5)", x.longest(5), 1);
        setText(x, A, A, A, A, B, B, B, B);
        due("longest(0), the whole", x.longest(0), 8);
        due("longest(7), not in the text", x.longest(7), -2);
        setText(x, C, C);
        due("longest(0), only empty ones", x.longest(0), 0);
        due("longest(5), not in the text", x.longest(5), -2);
        int[] signs = {-1, 8, MIN, MAX};
        for (int sign : signs) {
            due("longest(" + sign + ")", x.longest(sign), -1);
        }
    }

    private static void empty() {
        GllRecogniser x = new GllRecogniser();
        x.rule(0, row(1, 2, 3));
        x.rule(1, row(2, 2));
        x.rule(2, row(3));
        x.rule(3, row(A));
        x.rule(4, row(4, 4));
        x.write(3, 5);
        for (int name = 0; name < 5; name++) {
            due("empty(" + name + "), none", x.empty(name), 0);
        }
        x.rule(3, row());
        for (int name = 0; name < 4; name++) {
            due("empty(" + name + "), through others", x.empty(name), 1);
        }
        due("empty(4), only through itself", x.empty(4), 0);
        x.rule(4, row(0, 1, A));
        due("empty(4), a letter behind", x.empty(4), 0);
        x.write(0, 0);
        due("empty(0), the empty text", x.empty(0), 1);
        due("empty(4), the empty text", x.empty(4), 0);
        x.write(8, 0);
        due("empty(0), the full text", x.empty(0), 1);
        int[] names = {-1, 5, 6, 7, 8, MIN, MAX};
        for (int name : names) {
            due("empty(" + name + ")", x.empty(name), -1);
        }
    }

    private static void ways() {
        GllRecogniser x = new GllRecogniser();
        x.rule(0, row(0, 0));
        x.rule(0, row(A));
        x.rule(0, row(A));
        x.rule(0, row(0));
        x.rule(1, row(A));
        x.rule(0, row(0, 0, 0));
        setText(x, A, A, A);
        due("ways(0, 0, 1), a rule twice counts twice", x.ways(0, 0, 1), 3);
        due("ways(0, 0, 2)", x.ways(0, 0, 2), 2);
        due("ways(0, 0, 3), rules count, not cuts", x.ways(0, 0, 3), 3);
        due("ways(0, 1, 1)", x.ways(0, 1, 1), 0);
        due("ways(1, 2, 3)", x.ways(1, 2, 3), 1);
        due("ways(2, 2, 3)", x.ways(2, 2, 3), 0);
        int[] names = {-1, 5, 7, 8, MIN, MAX};
        for (int name : names) {
            due("ways(" + name + ", 0, 0)", x.ways(name, 0, 0), -1);
            due("ways(" + name + ", 1, 0)", x.ways(name, 1, 0), -1);
        }
        int[][] places = {{-1, 0}, {1, 0}, {0, 4}, {4, 4}, {MIN, MAX}, {MAX, MAX}, {0, -1}};
        for (int[] place : places) {
            due("ways(0, " + place[0] + ", " + place[1] + ")", x.ways(0, place[0], place[1]), -2);
        }
        x.clear();
        for (int r = 0; r < 12; r++) {
            x.rule(4, 0);
        }
        due("ways(4, 3, 3)", x.ways(4, 3, 3), 12);
    }

    private static void nextLetter() {
        GllRecogniser x = brackets();
        due("nextLetter() of the empty text", x.nextLetter(), 0);
        setText(x, A);
        due("nextLetter() of a", x.nextLetter(), B);
        setText(x, A, A, A, A, B, B, B);
        due("nextLetter(), the eighth", x.nextLetter(), B);
        x.push(B);
        due("nextLetter() of a full text", x.nextLetter(), -1);
        x.pop();
        x.pop();
        due("nextLetter(), one is not enough", x.nextLetter(), 0);
        x.clear();
        setText(x);
        x.rule(0, row(C));
        due("nextLetter(), only c", x.nextLetter(), C);
        x.rule(0, row(B));
        due("nextLetter(), the least of b and c", x.nextLetter(), B);
        x.rule(0, row(A));
        due("nextLetter(), the least of all", x.nextLetter(), A);
        x.clear();
        x.rule(0, row(B, 1));
        x.rule(1, row());
        due("nextLetter(), an empty name behind it", x.nextLetter(), B);
        x.clear();
        x.rule(1, row(A));
        due("nextLetter(), name 0 alone counts", x.nextLetter(), 0);
        x.write(8, 0);
        x.pop();
        due("nextLetter() after a pop, no rule for it", x.nextLetter(), 0);
        x.write(8, 0);
        due("nextLetter() of a full text without rules for 0", x.nextLetter(), -1);
    }

    private static void questionsChangeNothing() {
        GllRecogniser x = brackets();
        setText(x, A, A, B);
        List<Integer> before = state(x);
        x.nextLetter();
        dueState("after nextLetter", x, before);
        due("pop() after nextLetter", x.pop(), B);
        x.push(B);
        x.accepts();
        x.fits(0, 0, 2);
        x.ends(0, 0);
        x.ruleFits(0, 0, 2);
        x.stretches(0);
        x.longest(0);
        x.empty(0);
        x.ways(0, 0, 2);
        x.rules();
        x.length();
        dueState("after all questions", x, before);
        due("the same twice: nextLetter()", x.nextLetter(), B);
        due("the same twice: nextLetter()", x.nextLetter(), B);
        due("accepts() right after nextLetter()", x.accepts(), 0);
        due("empty(0) right after nextLetter()", x.empty(0), 1);
    }

    private static void refusedCallsChangeNothing() {
        GllRecogniser x = brackets();
        setText(x, A, B, C);
        List<Integer> before = state(x);
        x.rule(5, 0);
        x.rule(0, 9);
        x.drop(4);
        x.push(8);
        x.write(9, 0);
        x.write(3, 27);
        x.write(0, 1);
        dueState("after refused calls", x, before);
        x = brackets();
        setText(x, A, B, A, B, A, B, A, B);
        for (int r = 4; r < 12; r++) {
            x.rule(2, row(B));
        }
        before = state(x);
        x.rule(2, row(A));
        x.push(A);
        x.write(8, 6561);
        dueState("after refused calls when all is full", x, before);
    }

    private static void objectsAreApart() {
        GllRecogniser x = brackets();
        GllRecogniser y = new GllRecogniser();
        x.write(2, 1);
        due("rules() of another object", y.rules(), 0);
        due("length() of another object", y.length(), 0);
        y.rule(0, row(C));
        y.push(C);
        due("accepts() of the one", x.accepts(), 1);
        due("accepts() of the other", y.accepts(), 1);
    }
}
