/** Promises 3 (unit) and 4 (grade), with what rules do to promise 5 (graded). */
public final class PromiseRulesTest {
    public static void main(String[] args) {
        unit();
        goodTexts();
        wrongTexts();
        manyRules();
        conditions();
        rulesStay();
        Check.finish();
    }

    private static void unit() {
        StateShares x = new StateShares(3);
        Check.no("unit(31)", x.unit(31));
        Check.no("unit(127)", x.unit(127));
        Check.no("unit(-1)", x.unit(-1));
        Check.no("unit(304), 48 in its low bits", x.unit(304));
        Check.yes("unit(126)", x.unit(126));
        Check.due("the one sign is a wrong word", -1, x.grade());
        for (int i = 0; i < 119; i++) {
            Check.yes("unit(32) of place " + i, x.unit(' '));
        }
        Check.yes("unit of place 119", x.unit('0'));
        Check.no("unit of place 120", x.unit('1'));
        Check.no("unit of no sign", x.unit(0));
        Check.due("119 blanks and 0", 1, x.grade());
        Check.yes("room again", x.unit('2'));
        Check.due("2", 1, x.grade());
    }

    /** On a new object, as one is good for 512 calls alone. */
    private static void grade(int states, String text, int want) {
        Check.grade(new StateShares(states), text, want);
    }

    private static void goodTexts() {
        String[] texts = {"max", "min", "mid", "0", "4", "004", " max ", "n<3:max", "n = 2 : 1", "max>1:min", "min<999:mid",
            "#1>0:2", "# 7=0:4", "#999=000:0", "n>0:0"};
        for (String text : texts) {
            grade(5, text, 1);
            grade(5, text + ";" + text, 2);
            grade(5, " " + text + " ;  " + text + " ; max", 3);
        }
        grade(5, "n<3:max;mid;2", 3);
    }

    private static void wrongTexts() {
        String[] texts = {"", " ", "5", "005", "0004", "foo", "MAX", "maxi", "ma x", ";", ":", "<", "-1", "=1:2", "nX<1:1", "maxX", "midZ", "minA;0"};
        for (String text : texts) {
            grade(5, text, -1);
        }
        String[] second = {"n", "max max", "max 1", "1 2", "mid>1:1", "3<2", "max:1", "n 3:1", "#", "#x=0:1",
            "#1000=0:1", "#<0:1", "max.", "0a", "n:", "min,"};
        for (String text : second) {
            grade(5, text, -2);
        }
        String[] third = {"max;", "max;;", "n<", "n<x:1", "n<1000:1", "n<-1:1", "max> :1", "#1", "#1:2", "#1 1", "n<<1:1", "n<=1:1",
            "max;5", "0;x"};
        for (String text : third) {
            grade(5, text, -3);
        }
        grade(5, "n<2", -4);
        grade(5, "n<2;", -4);
        grade(5, "n<2 max", -4);
        grade(5, "#1>", -4);
        grade(5, "max;n:1", -4);
        grade(5, "n<2:", -5);
        grade(5, "n<2:5", -5);
        grade(5, "n<2:n", -5);
        grade(5, "#1>0", -5);
        grade(5, "n<2:1 1", -6);
        grade(5, "n<2:max>1:1", -6);
        grade(5, "#1>0:x", -6);
        grade(5, "n<2:1;", -7);
        grade(5, "n<2:3;;", -7);
        grade(5, "1;2;3;4;5;max", -9);
    }

    private static void manyRules() {
        String twenty = "0;".repeat(19) + "1";
        grade(2, twenty, 20);
        grade(2, twenty + ";1", -41);
        grade(2, twenty + ";", -41);
        grade(2, twenty + "; foo", -41);
        grade(2, twenty + ":", -40);
        grade(2, "0;".repeat(60), -41);
        grade(2, ";".repeat(120), -1);
        grade(2, "x".repeat(120), -1);
        grade(2, "1;" + "x".repeat(118), -3);
    }

    private static void conditions() {
        // Marks 1 1 3 of thing 0, and 2 of thing 1, in year 0.
        String[] texts = {"n=3:0;max", "n<3:0;max", "n>3:0;max", "n<2:0", "max=3:0;min", "max<3:0;min", "max>2:0;min", "min=1:0;max",
            "min>1:0;max", "min<2:0;4", "#1=2:0;max", "#1>1:0;max", "#1<1:0;max", "#2=1:0;mid", "#9=0:4", "#3<9:mid", "n=9:0;n=8:1"};
        int[] ofFirst = {0, 3, 3, 3, 0, 1, 0, 0, 3, 0, 0, 0, 3, 1, 4, 1, 3};
        int[] ofSecond = {2, 0, 2, 0, 2, 0, 2, 2, 0, 4, 2, 2, 0, 0, 4, 2, 2};
        StateShares x = new StateShares(5);
        x.mark(0, 0, 0, 3);
        x.mark(0, 0, 1, 1);
        x.mark(0, 0, 2, 1);
        x.mark(1, 0, 3, 2);
        for (int i = 0; i < texts.length; i++) {
            StateShares y = i < 8 ? x : again();
            Check.collect(y, texts[i]);
            Check.yes("grade() of " + texts[i], y.grade() > 0);
            Check.due("graded(0, 0) by " + texts[i], ofFirst[i], y.graded(0, 0));
            Check.due("graded(1, 0) by " + texts[i], ofSecond[i], y.graded(1, 0));
        }
    }

    private static StateShares again() {
        StateShares x = new StateShares(5);
        x.mark(0, 0, 0, 1);
        x.mark(0, 0, 1, 3);
        x.mark(0, 0, 3, 1);
        x.mark(1, 0, 0, 2);
        return x;
    }

    private static void rulesStay() {
        StateShares x = again();
        Check.grade(x, "min", 1);
        Check.grade(x, "4;", -3);
        Check.due("the rules stay", 1, x.graded(0, 0));
        Check.grade(x, "4;4;4;x", -7);
        Check.due("the rules stay", 1, x.graded(0, 0));
        Check.due("what was collected is gone", -1, x.grade());
        Check.due("the rules stay", 1, x.graded(0, 0));
        Check.collect(x, "4");
        Check.due("collecting alone changes nothing", 1, x.graded(0, 0));
        Check.due("grade()", 1, x.grade());
        Check.due("by the new rule", 4, x.graded(0, 0));
        Check.due("without marks by no rule", -1, x.graded(0, 1));
    }
}
