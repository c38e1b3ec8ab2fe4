import java.util.Arrays;

/** What the tests have in common: the kinds of steps, and programs made and looked at in one line. */
abstract class Programs {
    static final int CHOOSE = 0;
    static final int SET = 1;
    static final int ADD = 2;
    static final int MUL = 3;
    static final int PICK = 4;
    static final int LESS = 5;
    static final int EQUAL = 6;
    static final int DIFFER = 7;
    static final int ONCE = 8;
    static final int EITHER = 9;

    // The document's numbers, not the class's: a constant that is wrong there must not be right here.
    static final int NONE = -1000000000;
    static final int BAD = -1;
    static final int FULL = -2;
    static final int MIN = Integer.MIN_VALUE;
    static final int MAX = Integer.MAX_VALUE;

    static int range(int b, int c) {
        return (b + 3) + 16 * (c + 3);
    }

    static boolean isChoosing(int kind) {
        return kind == CHOOSE || kind == PICK || kind == EITHER;
    }

    /** A program of the given steps, three numbers each. */
    static SearchMachine program(int... numbers) {
        SearchMachine x = new SearchMachine();
        for (int i = 0; i < numbers.length; i += 3) {
            Checks.due("step " + i / 3 + " of a program", x.step(numbers[i], numbers[i + 1], numbers[i + 2]), i / 3);
        }
        return x;
    }

    static SearchMachine fullOf(int kind, int a, int bc) {
        SearchMachine x = new SearchMachine();
        for (int place = 0; place < 14; place++) {
            dueStep(x, kind, a, bc, place);
        }
        return x;
    }

    static void dueAnswer(String what, SearchMachine x, int k, int... wanted) {
        for (int v = 0; v < wanted.length; v++) {
            Checks.due(what + ": value(" + k + ", " + v + ")", x.value(k, v), wanted[v]);
        }
    }

    static void dueColumn(String what, SearchMachine x, int v, int... wanted) {
        Checks.due(what + ": answers()", x.answers(), wanted.length);
        for (int k = 0; k < wanted.length; k++) {
            Checks.due(what + ": value(" + k + ", " + v + ")", x.value(k, v), wanted[k]);
        }
    }

    static void dueStep(SearchMachine x, int kind, int a, int bc, int want) {
        int before = x.length();
        Checks.due("step(" + kind + ", " + a + ", " + bc + ")", x.step(kind, a, bc), want);
        Checks.due("length() after it", x.length(), want < 0 ? before : before + 1);
    }

    /** What can be seen of an object in some thirty calls: a refused call must leave it as it was. */
    static int[] picture(SearchMachine x) {
        int steps = x.length();
        int answers = x.answers();
        int[] seen = new int[10 + 1 + steps];
        seen[0] = steps;
        seen[1] = answers;
        for (int v = 0; v < 4; v++) {
            seen[2 + v] = x.value(0, v);
            seen[6 + v] = x.value(answers - 1, v);
        }
        for (int n = 0; n <= steps; n++) {
            seen[10 + n] = x.ways(n);
        }
        return seen;
    }

    static void duePicture(String what, SearchMachine x, int[] wanted) {
        int[] seen = picture(x);
        Checks.holds(what + " shows " + Arrays.toString(seen) + ", due is " + Arrays.toString(wanted),
            Arrays.equals(seen, wanted));
    }
}
