import java.util.Arrays;

/** The sentences of the document's terms, each with a test of its own at its borders. */
public final class TermsBoundaryTest extends Boundaries {
    public static void main(String[] args) {
        namesAndLetters();
        rowOfNoneToThreeSigns();
        atMostTwelveRules();
        derivesAgainAndAgain();
        derivesOnlyLetters();
        letterDerivesItself();
        atMostEightLetters();
        everyStretch();
        lettersOfAStretch();
        cutIntoStretches();
        emptyRightSide();
        noQuestionChangesAnything();
        noRefusedCallChangesAnything();
        goodSigns();
        goodNames();
        lastCallOfAnObject();
        finish();
    }

    private static void namesAndLetters() {
        sentence = "SIGNS are numbered 0 .. 7: the NAMES 0 .. 4 and the LETTERS 5, 6, 7";
        for (int sign = 0; sign < 8; sign++) {
            boolean isName = sign < 5;
            answers("on the left of a rule", new GllRecogniser(), isName ? 0 : -1, "rule", sign, 0);
            answers("on the right of a rule", new GllRecogniser(), 0, "rule", 0, row(sign));
            answers("in the text", new GllRecogniser(), isName ? -1 : 1, "push", sign);
            answers("asked for", new GllRecogniser(), 0, "fits", sign, 0, 0);
        }
    }

    private static void rowOfNoneToThreeSigns() {
        sentence = "A RULE has a row of 0 to 3 signs on its right";
        int[][] rows = {{}, {C}, {C, C}, {C, C, C}};
        for (int signs = 0; signs <= 3; signs++) {
            GllRecogniser x = withText(C, C, C, C);
            answers(signs + " signs", x, 0, "rule", 0, row(rows[signs]));
            answers(signs + " signs", x, 1 << signs, "ends", 0, 0);
        }
        unchanged(Start.SOME, -2, "rule", 0, row(0, 0, 0, 0));
        unchanged(Start.SOME, -2, "rule", 0, row(C, C, C, C));
        unchanged(Start.SOME, -2, "rule", 0, row(C, C, C, C, C));
    }

    private static void atMostTwelveRules() {
        sentence = "There is a list of at most 12 rules, numbered 0, 1, 2, .. in their order";
        int[] fitsNothing = {0, 1, 1, 1, 0, 0, 0, 0, 1, 0, 0, 0};
        for (int rules = 0; rules <= 12; rules++) {
            GllRecogniser x = made(rules, 8);
            answers(rules + " rules", x, rules, "rules");
            for (int rule = 0; rule < rules; rule++) {
                answers(rules + " rules", x, fitsNothing[rule], "ruleFits", rule, 0, 0);
            }
            answers(rules + " rules", x, -1, "ruleFits", rules, 0, 0);
            answers(rules + " rules", x, rules < 12 ? rules : -3, "rule", 0, 0);
        }
    }

    /** Each letter costs a way through all five names, and the rules stand in every order. */
    private static void derivesAgainAndAgain() {
        sentence = "A name DERIVES a row of letters if it can be got by replacing, again and again, some name in the row";
        int[][] letterFirst = {{0, row(1)}, {1, row(2)}, {2, row(3)}, {3, row(4)}, {4, row(A, 0)}, {4, row()}};
        int[][] letterLast = {{0, row(1)}, {1, row(2)}, {2, row(3)}, {3, row(4)}, {4, row(0, A)}, {4, row()}};
        inEveryOrder(letterFirst, 0);
        inEveryOrder(letterLast, 0);
    }

    private static void inEveryOrder(int[][] rules, int from) {
        if (from == rules.length) {
            everyNameFitsAll(rules);
        }
        for (int next = from; next < rules.length; next++) {
            swap(rules, from, next);
            inEveryOrder(rules, from + 1);
            swap(rules, from, next);
        }
    }

    private static void swap(int[][] rules, int one, int other) {
        int[] kept = rules[one];
        rules[one] = rules[other];
        rules[other] = kept;
    }

    private static void everyNameFitsAll(int[][] rules) {
        GllRecogniser x = withText(A, A, A, A, A, A, A, A);
        for (int[] rule : rules) {
            x.rule(rule[0], rule[1]);
        }
        for (int name = 0; name < 5; name++) {
            answers(Arrays.deepToString(rules), x, 45, "stretches", name);
        }
    }

    private static void derivesOnlyLetters() {
        sentence = "A name DERIVES a row of letters if ... until only letters are left";
        GllRecogniser x = withText(A);
        x.rule(0, row(0));
        x.rule(1, row(2));
        x.rule(2, row(1));
        x.rule(3, row(A, 4));
        for (int name = 0; name < 5; name++) {
            answers("names without end", x, 0, "stretches", name);
            answers("names without end", x, 0, "empty", name);
        }
        x.rule(4, row());
        answers("with an end", x, 1, "stretches", 3);
        answers("with an end", x, 2, "stretches", 4);
        answers("a ring still without end", x, 0, "stretches", 1);
    }

    private static void letterDerivesItself() {
        sentence = "A letter derives the row of just itself";
        for (int letter = A; letter <= C; letter++) {
            for (int length = 0; length <= 8; length++) {
                GllRecogniser x = made(12, length);
                for (int i = 0; i <= length; i++) {
                    boolean here = i < length && LETTERS[i] == letter;
                    answers("text of " + length, x, here ? 1 << (i + 1) : 0, "ends", letter, i);
                }
            }
        }
    }

    private static void atMostEightLetters() {
        sentence = "THE TEXT is a row of at most 8 letters, empty at first";
        GllRecogniser x = new GllRecogniser();
        answers("at first", x, 0, "length");
        for (int k = 1; k <= 8; k++) {
            answers("letter " + k, x, k, "push", C);
        }
        answers("letter 9", x, -2, "push", C);
        answers("count 9", x, -1, "write", 9, 0);
        answers("in the end", x, 8, "length");
    }

    private static void everyStretch() {
        sentence = "A STRETCH (i, j), 0 <= i <= j <= length()";
        for (int length = 0; length <= 8; length++) {
            GllRecogniser fits = made(12, length);
            GllRecogniser ruleFits = made(12, length);
            GllRecogniser ways = made(12, length);
            for (int i = -1; i <= length + 1; i++) {
                for (int j = -1; j <= length + 1; j++) {
                    boolean good = 0 <= i && i <= j && j <= length;
                    answers("text of " + length, fits, good ? 1 : -2, "fits", 3, i, j);
                    answers("text of " + length, ruleFits, good ? i < j ? 1 : 0 : -2, "ruleFits", 7, i, j);
                    answers("text of " + length, ways, good ? 1 : -2, "ways", 3, i, j);
                }
            }
        }
    }

    /** Each name derives just one row, and the text has each row more than once. */
    private static void lettersOfAStretch() {
        sentence = "A STRETCH is the letters at the places i .. j - 1; a sign FITS it if it derives them";
        String text = "abcabcab";
        String[] derived = {"ab", "abc", "bca", "abcab", "", "a", "b", "c"};
        for (int sign = 0; sign < 8; sign++) {
            GllRecogniser x = withText(A, B, C, A, B, C, A, B);
            x.rule(0, row(A, B));
            x.rule(1, row(0, C));
            x.rule(2, row(B, C, A));
            x.rule(3, row(A, 2, B));
            x.rule(4, row());
            for (int i = 0; i <= 8; i++) {
                for (int j = i; j <= 8; j++) {
                    int due = text.substring(i, j).equals(derived[sign]) ? 1 : 0;
                    answers(derived[sign], x, due, "fits", sign, i, j);
                }
            }
        }
    }

    private static void cutIntoStretches() {
        sentence = "A rule FITS a stretch if the stretch can be cut into as many stretches as its right side has signs";
        GllRecogniser x = withText(A, B, C, A, B, C, A, B);
        x.rule(0, row(A, B, C));
        x.rule(1, row(A, B));
        x.rule(2, row());
        x.rule(2, row(2, A));
        x.rule(3, row(2, 2, 2));
        x.rule(4, row(2, B, 2));
        answers("three signs", x, 1, "ruleFits", 0, 0, 3);
        answers("three signs, one letter too few", x, 0, "ruleFits", 0, 0, 2);
        answers("three signs, one letter too many", x, 0, "ruleFits", 0, 0, 4);
        answers("three signs, empty", x, 0, "ruleFits", 0, 0, 0);
        answers("two signs at the end", x, 1, "ruleFits", 1, 6, 8);
        answers("two signs, cut short", x, 0, "ruleFits", 1, 7, 8);
        answers("three empty stretches at the end", x, 1, "ruleFits", 4, 8, 8);
        answers("three stretches, two of them empty", x, 1, "ruleFits", 4, 0, 1);
        answers("three stretches, none has the letter", x, 0, "ruleFits", 4, 1, 2);
        answers("empty before and behind", x, 1, "ruleFits", 5, 7, 8);
        answers("empty behind", x, 1, "ruleFits", 5, 6, 8);
        answers("nothing in the middle", x, 0, "ruleFits", 5, 8, 8);
    }

    private static void emptyRightSide() {
        sentence = "A rule FITS a stretch, for an empty right side: if the stretch is empty";
        for (int length = 0; length <= 8; length++) {
            GllRecogniser x = made(12, length);
            for (int i = 0; i <= length; i++) {
                for (int j = i; j <= length; j++) {
                    answers("text of " + length, x, i == j ? 1 : 0, "ruleFits", 8, i, j);
                }
            }
        }
    }

    private static void noQuestionChangesAnything() {
        sentence = "No question changes anything";
        for (Start start : Start.values()) {
            for (String method : new String[] {"rules", "length", "accepts", "nextLetter"}) {
                changesNothing(start, method);
            }
            for (int sign = 0; sign < 8; sign++) {
                changesNothing(start, "stretches", sign);
                changesNothing(start, "longest", sign);
                for (int i : inside(0, start.length)) {
                    changesNothing(start, "ends", sign, i);
                }
                for (int[] pair : pairs(start.length, true)) {
                    changesNothing(start, "fits", sign, pair[0], pair[1]);
                }
            }
            for (int name = 0; name < 5; name++) {
                changesNothing(start, "empty", name);
                for (int[] pair : pairs(start.length, true)) {
                    changesNothing(start, "ways", name, pair[0], pair[1]);
                }
            }
            for (int rule = 0; rule < start.rules; rule++) {
                for (int[] pair : pairs(start.length, true)) {
                    changesNothing(start, "ruleFits", rule, pair[0], pair[1]);
                }
            }
        }
    }

    private static void changesNothing(Start start, String method, int... arguments) {
        GllRecogniser x = start.make();
        int answer = call(x, method, arguments);
        answers(start + " a second time", x, answer, method, arguments);
        looksLike(start + " after " + method + Arrays.toString(arguments), x, pictureOf(start));
    }

    /** Refused calls beyond number, on one object: what a single one leaves behind might be too little to be seen. */
    private static void noRefusedCallChangesAnything() {
        sentence = "A refused call changes nothing";
        for (Start start : Start.values()) {
            GllRecogniser x = start.make();
            for (int k = 0; k < 8; k++) {
                answers(start + "", x, -1, "rule", 5, k);
                answers(start + "", x, -2, "rule", 4, 9 * k + 729);
                answers(start + "", x, -1, "drop", start.rules + k);
                answers(start + "", x, -1, "push", 8 + k);
                answers(start + "", x, -1, "write", 9 + k, 0);
                answers(start + "", x, -2, "write", k, power(k));
                if (start.rules == 12) {
                    answers(start + "", x, -3, "rule", k % 5, k);
                }
                if (start.length == 8) {
                    answers(start + "", x, -2, "push", A + k % 3);
                }
                if (start.length == 0) {
                    answers(start + "", x, -1, "pop");
                }
            }
            looksLike(start + " after refused calls", x, pictureOf(start));
        }
    }

    private static void goodSigns() {
        sentence = "a sign is good if it is 0 .. 7";
        int[] ends = {1 + 16, 1 + 16 + 64, 2, 511, 0, 2, 0, 0};
        for (int sign = -2; sign <= 9; sign++) {
            boolean good = 0 <= sign && sign <= 7;
            unchanged(Start.FULL, good ? ends[sign] : -1, "ends", sign, 0);
        }
    }

    private static void goodNames() {
        sentence = "a name is good if it is 0 .. 4";
        int[] empty = {1, 1, 0, 1, 0};
        for (int name = -2; name <= 8; name++) {
            boolean good = 0 <= name && name <= 4;
            unchanged(Start.FULL, good ? empty[name] : -1, "empty", name);
        }
    }

    private static void lastCallOfAnObject() {
        sentence = "An object is used for at most 512 calls";
        String[] methods = {"accepts", "nextLetter", "length", "rules", "pop", "clear"};
        int[] due = {0, B, 7, 12, B, 12};
        for (int k = 0; k < methods.length; k++) {
            GllRecogniser x = made(12, 0);
            x.write(7, 4 + 9);
            for (int calls = 13; calls < MOST_CALLS - 1; calls++) {
                x.ends(calls % 8, calls % 8);
            }
            answers("the 512th call", x, due[k], methods[k]);
        }
        GllRecogniser x = made(12, 0);
        for (int calls = 12; calls < MOST_CALLS; calls += 4) {
            answers("many pushes", x, 1, "push", B);
            answers("many rules", x, 11, "drop", 11);
            answers("many pops", x, B, "pop");
            answers("many rules", x, 11, "rule", RULES[11][0], RULES[11][1]);
        }
    }
}
