/** A test for each sentence on rules in "Terms", and for each of promises 3, 4 and 5, that names a boundary. */
final class BoundaryRules {
    private static final String TERMS = "Terms";

    static final Check.Call[] TESTS = {
        BoundaryRules::rulesInARow,
        BoundaryRules::valueOrCondition,
        BoundaryRules::conditions,
        BoundaryRules::amounts,
        BoundaryRules::values,
        BoundaryRules::valueIsAState,
        BoundaryRules::rowsOfLetters,
        BoundaryRules::rowsOfDigits,
        BoundaryRules::singleSigns,
        BoundaryRules::blanks,
        BoundaryRules::firstRuleThatHolds,
        BoundaryRules::byNoRule,
        BoundaryRules::valuesOfMarks,
        BoundaryRules::withoutMarks,
        BoundaryRules::ruleAtFirst,
        BoundaryRules::signs,
        BoundaryRules::otherSigns,
        BoundaryRules::collectedBecomesRules,
        BoundaryRules::firstWrongWord,
        BoundaryRules::endsTooEarly,
        BoundaryRules::rulesStay,
        BoundaryRules::moreThanTwenty,
        BoundaryRules::stateOfAThing,
        BoundaryRules::notGraded,
    };

    private BoundaryRules() {
    }

    /** On a new object, as one is good for 512 calls alone. */
    private static void dueGrade(int states, String text, int want) {
        Check.grade(new StateShares(states), text, want);
    }

    private static StateShares withMarks(int... states) {
        StateShares x = new StateShares(6);
        for (int person = 0; person < states.length; person++) {
            Check.yes("mark", x.mark(3, 4, person, states[person]));
        }
        return x;
    }

    /** What a text makes of the marks of one thing in a year. */
    private static void dueGraded(String text, int want, int... states) {
        StateShares x = withMarks(states);
        Check.collect(x, text);
        Check.yes("grade() of \"" + text + "\"", x.grade() > 0);
        Check.due("by \"" + text + "\"", want, x.graded(3, 4));
    }

    private static void rulesInARow() {
        Check.sentence(TERMS, "RULES are a text: a rule, and any number of times ; and a rule.");
        dueGrade(6, "5", 1);
        dueGrade(6, "5;5", 2);
        dueGrade(6, "n<1:5;5;max", 3);
        dueGrade(6, "0;1;2;3;4;5;0;1;2;3;4;5;0;1;2;3;4;5;0;1", 20);
        dueGrade(6, "", -1);
        dueGrade(6, ";5", -1);
        dueGrade(6, "5 5", -2);
        dueGrade(6, "5,5", -2);
        dueGrade(6, "5;", -3);
        dueGrade(6, "5;;5", -3);
    }

    private static void valueOrCondition() {
        Check.sentence(TERMS, "A rule is a VALUE, or a CONDITION : and a value.");
        dueGrade(6, "max", 1);
        dueGrade(6, "max>1:max", 1);
        dueGrade(6, "max>1:min>1:0", -6);
        dueGrade(6, "max>1", -4);
        dueGrade(6, "max>1 max", -4);
        dueGrade(6, "max>1;max", -4);
        dueGrade(6, ":max", -1);
        dueGrade(6, "max:max", -2);
        dueGrade(6, "1:max", -2);
    }

    private static void conditions() {
        Check.sentence(TERMS, "A condition is an AMOUNT, one of < = >, and a number.");
        String[] texts = {"n<3:5;0", "n=3:5;0", "n>3:5;0"};
        int[][] want = {{5, 0, 0}, {0, 5, 0}, {0, 0, 5}};
        for (int i = 0; i < 3; i++) {
            dueGraded(texts[i], want[i][0], 1, 1);
            dueGraded(texts[i], want[i][1], 1, 1, 1);
            dueGraded(texts[i], want[i][2], 1, 1, 1, 1);
        }
        dueGraded("n>0:5;0", 5, 1);
        dueGraded("n<0:5;0", 0, 1);
        dueGraded("min=0:5;1", 5, 0);
        dueGraded("max<999:5;1", 5, 5);
        dueGrade(6, "n!3:5", -2);
        dueGrade(6, "n<=3:5", -3);
        dueGrade(6, "n<max:5", -3);
        dueGrade(6, "3<n:5", -2);
        dueGrade(6, "mid<3:5", -2);
    }

    private static void amounts() {
        Check.sentence(TERMS, "An amount is n (how many marks there are), max, min, or # and a number (how many of the marks are that).");
        dueGraded("n=1:5;0", 5, 2);
        dueGraded("n=4:5;0", 5, 2, 2, 2, 2);
        dueGraded("max=4:5;0", 5, 1, 4, 2);
        dueGraded("max=1:5;0", 0, 1, 4, 2);
        dueGraded("min=1:5;0", 5, 4, 1, 2);
        dueGraded("min=4:5;0", 0, 4, 1, 2);
        dueGraded("#2=2:5;0", 5, 2, 1, 2, 3);
        dueGraded("#2=3:5;0", 0, 2, 1, 2, 3);
        dueGraded("#0=4:5;1", 5, 0, 0, 0, 0);
        dueGraded("#5=0:5;1", 5, 0, 0, 0, 0);
        // The number of # need not be a state.
        dueGraded("#6=0:5;1", 5, 0, 5);
        dueGraded("#999>0:5;1", 1, 0, 5);
        dueGrade(6, "#n=1:0", -2);
        dueGrade(6, "#=1:0", -2);
        dueGrade(6, "2=1:0", -2);
        dueGrade(6, "n 2=1:0", -2);
    }

    private static void values() {
        Check.sentence(TERMS, "A value is max, min, mid (of the marks in order the one with as many before it as behind it, "
            + "of two such ones the greater),");
        dueGraded("mid", 4, 4);
        dueGraded("mid", 4, 4, 1);
        dueGraded("mid", 4, 1, 4);
        dueGraded("mid", 3, 5, 0, 3);
        dueGraded("mid", 3, 5, 3, 0, 1);
        dueGraded("mid", 3, 0, 1, 3, 5);
        dueGraded("mid", 2, 2, 2, 2, 0);
        dueGraded("mid", 2, 5, 2, 2, 2);
        dueGraded("max", 5, 0, 5, 3);
        dueGraded("min", 0, 5, 0, 3);
        dueGrade(6, "n", -2);
        dueGrade(6, "n<1:n", -5);
        dueGrade(6, "#1", -3);
        dueGrade(6, "n<1:#1", -5);
    }

    private static void valueIsAState() {
        Check.sentence(TERMS, "or a number, which must be a state.");
        for (int n = 2; n <= 6; n++) {
            dueGrade(n, "0", 1);
            dueGrade(n, "" + (n - 1), 1);
            dueGrade(n, "" + n, -1);
            dueGrade(n, "n=1:" + (n - 1), 1);
            dueGrade(n, "n=1:" + n, -5);
            dueGrade(n, "00" + n, -1);
            dueGrade(n, "999", -1);
            dueGrade(n, "-1", -1);
            // Only values must be states.
            dueGrade(n, "#" + n + ">" + n + ":0", 1);
        }
    }

    private static void rowsOfLetters() {
        Check.sentence(TERMS, "WORDS are rows of letters,");
        dueGrade(6, "maxmin", -1);
        dueGrade(6, "maxn<1:0", -1);
        dueGrade(6, "MAX", -1);
        dueGrade(6, "Max", -1);
        dueGrade(6, "nn<1:0", -1);
        dueGrade(6, "zzz", -1);
        // A number ends a row of letters, and letters end a number.
        dueGrade(6, "max1", -2);
        dueGrade(6, "1max", -2);
        dueGrade(6, "n<1:0z", -6);
        // Signs beside the letters are none.
        dueGrade(6, "max@", -2);
        dueGrade(6, "max[", -2);
        dueGrade(6, "max`", -2);
        dueGrade(6, "max{", -2);
        dueGrade(6, "max;maxZ", -3);
        dueGrade(6, "max;maxA", -3);
        dueGrade(6, "max;maxa", -3);
        dueGrade(6, "max;maxz", -3);
        dueGrade(6, "z".repeat(120), -1);
        dueGrade(6, "5;" + "a".repeat(118), -3);
    }

    private static void rowsOfDigits() {
        Check.sentence(TERMS, "rows of digits (a number; of more than 3 it is wrong),");
        dueGrade(6, "5", 1);
        dueGrade(6, "05", 1);
        dueGrade(6, "005", 1);
        dueGrade(6, "0005", -1);
        dueGrade(6, "n<999:5", 1);
        dueGrade(6, "n<1000:5", -3);
        dueGrade(6, "n<0001:5", -3);
        dueGrade(6, "#999=0:5", 1);
        dueGrade(6, "#0000=0:5", -2);
        dueGrade(6, "n<1:0000", -5);
        dueGrade(6, "0".repeat(120), -1);
        // Signs beside the digits are none.
        dueGrade(6, "1/", -2);
        dueGrade(6, "1:", -2);
        // By its value, not by its signs.
        dueGraded("n<010:5;0", 5, 1);
        dueGraded("#001=002:5;0", 5, 1, 1);
    }

    private static void singleSigns() {
        Check.sentence(TERMS, "and other single signs;");
        dueGrade(6, "5;;;", -3);
        dueGrade(6, "n<<1:0", -3);
        dueGrade(6, "n<1::0", -5);
        dueGrade(6, "##1=0:0", -2);
        dueGrade(6, "!", -1);
        dueGrade(6, "~", -1);
        dueGrade(6, "max~~", -2);
        dueGrade(6, "n<1:0;??", -7);
        dueGrade(6, ";".repeat(120), -1);
    }

    private static void blanks() {
        Check.sentence(TERMS, "blanks lie between words, or not.");
        dueGrade(6, " n < 3 : max ; # 1 = 0 : min ; mid ", 3);
        dueGrade(6, "n<3:max;#1=0:min;mid", 3);
        dueGrade(6, "    max    ;    0    ", 2);
        dueGrade(6, " ".repeat(119) + "5", 1);
        dueGrade(6, "5" + " ".repeat(119), 1);
        dueGrade(6, " ".repeat(120), -1);
        dueGrade(6, "ma x", -1);
        dueGrade(6, "0 0", -2);
        dueGrade(6, "n<1 0:5", -4);
        dueGrade(6, "   max   x", -2);
    }

    private static void firstRuleThatHolds() {
        Check.sentence(TERMS, "GRADED is a thing in a year with marks: by the first rule that has no condition or whose condition holds, to its value;");
        dueGraded("n=2:3;n=2:4;5", 3, 0, 1);
        dueGraded("n=1:3;n=2:4;5", 4, 0, 1);
        dueGraded("n=1:3;n=3:4;5", 5, 0, 1);
        dueGraded("5;n=2:3", 5, 0, 1);
        dueGraded("5;4;3", 5, 0, 1);
        dueGraded("n=9:0;".repeat(19) + "5", 5, 0, 1);
    }

    private static void byNoRule() {
        Check.sentence(TERMS, "by none: to the greatest mark;");
        dueGraded("n=9:0", 4, 1, 4, 2);
        dueGraded("n>3:0;n<2:0;#4=0:0", 4, 4, 1, 2);
        dueGraded("max>4:0", 4, 1, 2, 4);
    }

    private static void valuesOfMarks() {
        Check.sentence(TERMS, "a value max, min, mid of the marks.");
        dueGraded("n=3:max", 5, 1, 5, 4);
        dueGraded("n=3:min", 1, 5, 1, 4);
        dueGraded("n=3:mid", 4, 5, 1, 4);
    }

    private static void withoutMarks() {
        Check.sentence(TERMS, "Without marks it is not graded.");
        String[] texts = {"max", "5", "n=0:5", "n<1:5", "#0=0:5", "mid"};
        for (String text : texts) {
            StateShares x = new StateShares(6);
            Check.grade(x, text, 1);
            Check.due("nothing is marked, by " + text, -1, x.graded(0, 0));
            x.mark(0, 1, 0, 3);
            Check.due("the year before, by " + text, -1, x.graded(0, 0));
            Check.due("the next thing, by " + text, -1, x.graded(1, 1));
        }
    }

    private static void ruleAtFirst() {
        Check.sentence(TERMS, "At first the rule is max.");
        Check.due("of 2 5 0 3", 5, withMarks(2, 5, 0, 3).graded(3, 4));
        Check.due("of 0", 0, withMarks(0).graded(3, 4));
    }

    private static void signs() {
        Check.sentence("Promise 3", "A sign of 32 .. 126 is collected, at most 120.");
        StateShares x = new StateShares(6);
        Check.yes("unit(32)", x.unit(32));
        Check.yes("unit(126)", x.unit(126));
        Check.due("126 alone is a word", -1, x.grade());
        for (int sign = 33; sign <= 126; sign++) {
            Check.yes("unit(" + sign + ")", x.unit(sign));
        }
        Check.due("! is wrong", -1, x.grade());
        StateShares y = new StateShares(6);
        Check.collect(y, " ".repeat(118) + "5;");
        Check.due("120 of them, and no rule behind ;", -3, y.grade());
        Check.collect(y, " ".repeat(119) + "4");
        Check.due("120 again", 1, y.grade());
        y.mark(0, 0, 0, 1);
        Check.due("the last one counts", 4, y.graded(0, 0));
    }

    private static void otherSigns() {
        Check.sentence("Promise 3", "False: another one, or there is no room.");
        StateShares x = new StateShares(6);
        int[] none = {31, 127, 0, -1, 10, 9, 128, 255, 256 + 53, 65536 + 53, -256 + 53, Integer.MIN_VALUE, Integer.MIN_VALUE + 53, Integer.MAX_VALUE};
        for (int sign : none) {
            Check.no("unit(" + sign + ")", x.unit(sign));
        }
        Check.due("none of them was collected", -1, x.grade());
        Check.yes("unit(53)", x.unit(53));
        for (int sign : none) {
            Check.no("unit(" + sign + ")", x.unit(sign));
        }
        Check.due("none of them was collected", 1, x.grade());
        Check.collect(x, "5" + " ".repeat(119));
        Check.no("no room", x.unit(' '));
        Check.no("no room", x.unit('5'));
        Check.no("no room for what is no sign", x.unit(31));
        Check.due("they are not in the text", 1, x.grade());
        Check.yes("room again", x.unit('5'));
    }

    private static void collectedBecomesRules() {
        Check.sentence("Promise 4", "What was collected becomes the rules, and is gone: how many there are.");
        StateShares x = withMarks(1, 3, 2);
        Check.collect(x, "min;max");
        Check.due("before grade()", 3, x.graded(3, 4));
        Check.due("grade()", 2, x.grade());
        Check.due("behind it", 1, x.graded(3, 4));
        Check.due("nothing is collected", -1, x.grade());
        Check.grade(x, "4", 1);
        Check.due("only the new rule", 4, x.graded(3, 4));
        Check.grade(x, "5;", -3);
        Check.grade(x, "2", 1);
        Check.due("a wrong text is gone as well", 2, x.graded(3, 4));
        Check.due("moves are by them, too", 0, x.count(2, 2));
        x.mark(3, 5, 0, 0);
        Check.due("moves are by them, too", 1, x.count(2, 2));
    }

    private static void firstWrongWord() {
        Check.sentence("Promise 4", "- 1 less the number (from 0) of its first word that is wrong");
        String[] texts = {"?", "max ?", "max;?", "n<2?", "n<2:?", "#1=0:?", "max;min;mid;?", "? ? ?", "max ? ?", "5;6;7"};
        int[] want = {-1, -2, -3, -4, -5, -6, -7, -1, -2, -3};
        for (int i = 0; i < texts.length; i++) {
            dueGrade(6, texts[i], want[i]);
        }
        // The last word of the longest text.
        dueGrade(6, "n<1:0;".repeat(18) + "n<1:0;n=1:0", 20);
        dueGrade(6, "n<1:0;".repeat(19) + "n<1:0?", -120);
        dueGrade(6, "n<1:0;".repeat(19) + "n<1:0;", -121);
    }

    private static void endsTooEarly() {
        Check.sentence("Promise 4", "(if it ends too early, of the one behind the last)");
        String[] texts = {"", " ", "n", "max;", "n<", "#", "#1", "#1=", "n<2", "#1=0", "n<2:", "#1=0:", "max;n<2:", "n<2:0;"};
        int[] want = {-1, -1, -2, -3, -3, -2, -3, -4, -4, -5, -5, -6, -7, -7};
        for (int i = 0; i < texts.length; i++) {
            dueGrade(6, texts[i], want[i]);
            dueGrade(6, " " + texts[i] + "  ", want[i]);
        }
    }

    private static void rulesStay() {
        Check.sentence("Promise 4", ": the rules stay;");
        String[] wrong = {"", "?", "5;", "5;6", "5;5;5 5", "n<9:5;n<9:", "0;".repeat(21)};
        for (String text : wrong) {
            StateShares x = withMarks(4, 2, 3);
            Check.collect(x, text);
            Check.yes("wrong at first: " + text, x.grade() < 0);
            Check.due("max stays behind " + text, 4, x.graded(3, 4));
            Check.grade(x, "n=4:1;min", 2);
            Check.collect(x, text);
            Check.yes("wrong: " + text, x.grade() < 0);
            Check.due("min stays behind " + text, 2, x.graded(3, 4));
            x.mark(3, 4, 3, 5);
            Check.due("with the rule before it, behind " + text, 1, x.graded(3, 4));
        }
    }

    private static void moreThanTwenty() {
        Check.sentence("Promise 4", "more than 20 rules: the first word of the next one is wrong.");
        String twenty = "0;".repeat(19) + "1";
        dueGrade(6, twenty, 20);
        dueGrade(6, twenty + ";1", -41);
        dueGrade(6, twenty + ";n<1:1", -41);
        dueGrade(6, twenty + ";?", -41);
        dueGrade(6, twenty + ";1;?", -41);
        dueGrade(6, "0;".repeat(60), -41);
        dueGrade(6, twenty + "?", -40);
        dueGrade(6, "n<1:0;" + twenty, -45);
        StateShares x = withMarks(3);
        Check.grade(x, twenty + ";1", -41);
        Check.due("the rules stay", 3, x.graded(3, 4));
        Check.grade(x, "n=2:0;".repeat(19) + "5", 20);
        Check.due("the last of twenty counts", 5, x.graded(3, 4));
    }

    private static void stateOfAThing() {
        Check.sentence("Promise 5", "The state to which a thing is graded in a year.");
        StateShares x = new StateShares(6);
        int[][] corners = {{0, 0, 0}, {0, 11, 5}, {9, 0, 1}, {9, 11, 4}};
        for (int[] c : corners) {
            x.mark(c[0], c[1], 3, c[2]);
        }
        for (int[] c : corners) {
            Check.due("graded(" + c[0] + ", " + c[1] + ")", c[2], x.graded(c[0], c[1]));
        }
        x.mark(0, 0, 0, 4);
        Check.due("graded anew by another mark", 4, x.graded(0, 0));
        Check.grade(x, "min", 1);
        Check.due("graded anew by other rules", 0, x.graded(0, 0));
    }

    private static void notGraded() {
        Check.sentence("Promise 5", "BAD: none such, or not graded.");
        StateShares x = new StateShares(2);
        for (int thing = 0; thing < 10; thing++) {
            for (int year = 0; year < 12; year++) {
                Check.due("graded(" + thing + ", " + year + ")", -1, x.graded(thing, year));
                x.mark(thing, year, 0, 1);
            }
        }
        int[][] none = {{-1, 0}, {10, 0}, {0, -1}, {0, 12}, {-1, 12}, {10, -1}, {-1, 13}, {1, -12}, {Integer.MIN_VALUE, 0},
            {0, Integer.MIN_VALUE}, {Integer.MAX_VALUE, 0}, {0, Integer.MAX_VALUE}};
        for (int[] a : none) {
            Check.due("graded(" + a[0] + ", " + a[1] + ")", -1, x.graded(a[0], a[1]));
        }
    }
}
