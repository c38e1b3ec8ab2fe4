/** Each sentence of promises 1 to 11 that names a boundary case, in a test of its own. */
public final class PromiseBoundariesTest extends Programs {
    private static final int[] NO_VARIABLES = {-1, 4, -4, 5, 256, MIN, MAX};
    private static final int[] NO_WHAT = {-1, 2, -2, 3, MIN, MAX};

    public static void main(String[] args) {
        newObjectIsEmpty();
        stepAnswersItsPlace();
        stepReadsSet();
        stepReadsChoose();
        stepReadsVariableB();
        stepTakesAnyOnce();
        stepRefusesKinds();
        stepRefusesVariableA();
        stepRefusesVariableB();
        stepRefusesNumbers();
        stepRefusesAFourthChoosing();
        stepRefusesWhenFull();
        dropAnswersTheNumberLeft();
        dropTakesTheLastStep();
        dropOfNone();
        lengthFromEmptyToFull();
        answersFromNoneToTheMost();
        valueInTheOrderOfRuns();
        valueOfNoAnswer();
        valueOfNoVariable();
        valueThatLooksLikeNone();
        countWithFromNoneToAll();
        countWithOfNoVariable();
        firstWithFromFirstToLast();
        firstWithOfNone();
        firstWithOfNoVariable();
        extremeLeast();
        extremeGreatest();
        extremeOfNoAnswer();
        extremeOfNoVariable();
        extremeOfNoSuchWhat();
        waysFromNoStepToAll();
        waysAtOnce();
        waysOutside();
        badBeforeFull();
        fourthChoosingBeforeFull();
        fullWhenNothingIsBad();
        questionsChangeNothing();
        Checks.end("PromiseBoundariesTest");
    }

    private static SearchMachine most() {
        return program(CHOOSE, 0, range(-3, 9), CHOOSE, 1, range(-3, 9), CHOOSE, 2, range(-3, 9));
    }

    private static SearchMachine noAnswer() {
        return program(CHOOSE, 0, range(0, 9), LESS, 1, 1);
    }

    /** A program of 14 steps, the given number of them choosing. */
    private static SearchMachine fullWith(int choosing) {
        SearchMachine x = new SearchMachine();
        for (int place = 0; place < 14; place++) {
            dueStep(x, place < choosing ? EITHER : SET, 0, 1, place);
        }
        return x;
    }

    private static void dueRefused(SearchMachine x, int kind, int a, int bc, int want) {
        int[] before = picture(x);
        Checks.due("step(" + kind + ", " + a + ", " + bc + ")", x.step(kind, a, bc), want);
        duePicture("after step(" + kind + ", " + a + ", " + bc + ")", x, before);
    }

    private static void newObjectIsEmpty() {
        Checks.about("Promise 1: An empty program.");
        Checks.due("length()", new SearchMachine().length(), 0);
        Checks.due("drop()", new SearchMachine().drop(), BAD);
        Checks.due("answers()", new SearchMachine().answers(), 1);
        Checks.due("ways(0)", new SearchMachine().ways(0), 1);
        Checks.due("ways(1)", new SearchMachine().ways(1), BAD);
        Checks.due("ways(-1)", new SearchMachine().ways(-1), BAD);
        for (int v = 0; v <= 3; v++) {
            Checks.due("value(0, v)", new SearchMachine().value(0, v), 0);
            Checks.due("value(1, v)", new SearchMachine().value(1, v), NONE);
            Checks.due("value(-1, v)", new SearchMachine().value(-1, v), NONE);
            Checks.due("countWith(v, 0)", new SearchMachine().countWith(v, 0), 1);
            Checks.due("countWith(v, 1)", new SearchMachine().countWith(v, 1), 0);
            Checks.due("firstWith(v, 0)", new SearchMachine().firstWith(v, 0), 0);
            Checks.due("firstWith(v, 1)", new SearchMachine().firstWith(v, 1), -1);
            Checks.due("extreme(v, 0)", new SearchMachine().extreme(v, 0), 0);
            Checks.due("extreme(v, 1)", new SearchMachine().extreme(v, 1), 0);
        }
        Checks.due("step(8, 0, 0)", new SearchMachine().step(ONCE, 0, 0), 0);
    }

    private static void stepAnswersItsPlace() {
        Checks.about("Promise 2: Appends a step and answers its place (0 the first).");
        for (int kind = 0; kind <= 9; kind++) {
            Checks.due("kind " + kind + " as the first", new SearchMachine().step(kind, 0, 0), 0);
            SearchMachine x = new SearchMachine();
            for (int place = 0; place < 13; place++) {
                Checks.due("SET at " + place, x.step(SET, 0, place), place);
            }
            Checks.due("kind " + kind + " as the last", x.step(kind, 0, 0), 13);
        }
        SearchMachine x = program(SET, 0, 1, SET, 0, 2);
        Checks.due("after two steps", x.value(0, 0), 2);
        x.drop();
        Checks.due("in the place of a dropped one", x.step(SET, 0, 3), 1);
        Checks.due("appended, not put first", x.value(0, 0), 3);
    }

    private static void stepReadsSet() {
        Checks.about("Promise 2: bc is b for SET");
        for (int b : new int[] {-20, -19, -1, 0, 1, 3, 4, 19, 20}) {
            Checks.due("SET 1 " + b, program(SET, 1, b).value(0, 1), b);
        }
    }

    private static void stepReadsChoose() {
        Checks.about("Promise 2: (b + 3) + 16 * (c + 3) for CHOOSE");
        dueColumn("bc 0 is -3 .. -3", program(CHOOSE, 0, 0), 0, -3);
        dueColumn("bc 16 is -3 .. -2", program(CHOOSE, 0, 16), 0, -3, -2);
        dueColumn("bc 17 is -2 .. -2", program(CHOOSE, 0, 17), 0, -2);
        dueColumn("bc 51 is 0 .. 0", program(CHOOSE, 0, 51), 0, 0);
        dueColumn("bc 1 is -2 .. -3", program(CHOOSE, 0, 1), 0);
        dueColumn("bc 12 is 9 .. -3", program(CHOOSE, 0, 12), 0);
        dueColumn("bc 192 is -3 .. 9", program(CHOOSE, 0, 192), 0, -3, -2, -1, 0, 1, 2, 3, 4, 5, 6, 7, 8, 9);
        dueColumn("bc 204 is 9 .. 9", program(CHOOSE, 0, 204), 0, 9);
    }

    private static void stepReadsVariableB() {
        Checks.about("Promise 2: the number of variable b for the others");
        for (int b = 0; b <= 3; b++) {
            int[] numbers = {SET, 0, 1, SET, 1, 2, SET, 2, 4, SET, 3, 8};
            int a = 3 - b;
            int left = 1 << a;
            int right = 1 << b;
            SearchMachine x = program(numbers);
            dueAfter(x, ADD, a, b, left + right);
            dueAfter(x, MUL, a, b, left * right);
            dueAfter(x, PICK, a, b, right);
            dueAfter(x, EITHER, a, b, left + 1);
            dueTested(x, LESS, a, b, left < right);
            dueTested(x, EQUAL, a, b, false);
            dueTested(x, DIFFER, a, b, true);
        }
    }

    private static void dueAfter(SearchMachine x, int kind, int a, int b, int want) {
        Checks.due("step(" + kind + ", " + a + ", " + b + ")", x.step(kind, a, b), 4);
        Checks.due("variable " + a + " after kind " + kind + " with " + b, x.value(0, a), want);
        x.drop();
    }

    private static void dueTested(SearchMachine x, int kind, int a, int b, boolean passes) {
        Checks.due("step(" + kind + ", " + a + ", " + b + ")", x.step(kind, a, b), 4);
        Checks.due("answers() after kind " + kind + " of " + a + " and " + b, x.answers(), passes ? 1 : 0);
        x.drop();
    }

    private static void stepTakesAnyOnce() {
        Checks.about("Promise 2: any int for ONCE, and so is a");
        for (int any : new int[] {MIN, -1000000000, -21, -1, 0, 3, 4, 13, 21, 256, MAX}) {
            dueColumn("ONCE with this a", program(PICK, 0, 0, ONCE, any, 0), 0, 0);
            dueColumn("ONCE with this bc", program(PICK, 0, 0, ONCE, 0, any), 0, 0);
            dueColumn("ONCE with both", program(PICK, 0, 0, ONCE, any, any), 0, 0);
        }
    }

    private static void stepRefusesKinds() {
        Checks.about("Promise 2: BAD when kind is not 0 .. 9");
        for (int kind : new int[] {-1, 10, -2, 11, 16, 26, 256, MIN, MIN + 8, MAX}) {
            dueRefused(program(PICK, 0, 0), kind, 0, 0, BAD);
        }
        for (int kind = 0; kind <= 9; kind++) {
            Checks.due("kind " + kind, new SearchMachine().step(kind, 0, 0), 0);
        }
    }

    private static void stepRefusesVariableA() {
        Checks.about("Promise 2: BAD when a variable is not 0 .. 3 (a)");
        for (int kind = 0; kind <= 9; kind++) {
            for (int a : NO_VARIABLES) {
                if (kind != ONCE) {
                    dueRefused(program(PICK, 0, 0), kind, a, 0, BAD);
                }
            }
            for (int a = 0; a <= 3; a++) {
                Checks.due("kind " + kind + " of " + a, new SearchMachine().step(kind, a, 0), 0);
            }
        }
    }

    private static void stepRefusesVariableB() {
        Checks.about("Promise 2: BAD when a variable is not 0 .. 3 (b)");
        for (int kind : new int[] {ADD, MUL, PICK, LESS, EQUAL, DIFFER, EITHER}) {
            for (int b : NO_VARIABLES) {
                dueRefused(program(PICK, 0, 0), kind, 0, b, BAD);
            }
            for (int b = 0; b <= 3; b++) {
                Checks.due("kind " + kind + " with " + b, new SearchMachine().step(kind, 0, b), 0);
            }
        }
    }

    private static void stepRefusesNumbers() {
        Checks.about("Promise 2: BAD when a number is not in its range");
        for (int b : new int[] {-21, 21, 1000, MIN, MAX}) {
            dueRefused(program(PICK, 0, 0), SET, 0, b, BAD);
        }
        int taken = 0;
        for (int bc = -300; bc <= 600; bc++) {
            SearchMachine x = new SearchMachine();
            int place = x.step(CHOOSE, 0, bc);
            Checks.due("length() after step(0, 0, " + bc + ")", x.length(), place == BAD ? 0 : 1);
            taken += place == BAD ? 0 : 1;
        }
        Checks.due("how many bc are taken", taken, 13 * 13);
        for (int bc : new int[] {-1, -16, -208, 13, 14, 15, 29, 205, 207, 208, 220, 255, 256, 65536, MIN, MAX}) {
            dueRefused(program(PICK, 0, 0), CHOOSE, 0, bc, BAD);
        }
    }

    private static void stepRefusesAFourthChoosing() {
        Checks.about("Promise 2: BAD when it would be the fourth CHOOSE, PICK or EITHER");
        for (int kind : new int[] {CHOOSE, PICK, EITHER}) {
            SearchMachine x = program(CHOOSE, 0, range(1, 0), SET, 0, 0, PICK, 1, 1, ONCE, 0, 0, EITHER, 2, 2);
            dueRefused(x, kind, 0, 0, BAD);
            x.drop();
            Checks.due("the third anew", x.step(kind, 0, 0), 4);
            dueRefused(x, kind, 0, 0, BAD);
        }
    }

    private static void stepRefusesWhenFull() {
        Checks.about("Promise 2: FULL when there are 14 steps.");
        for (int kind = 0; kind <= 9; kind++) {
            dueRefused(fullWith(2), kind, 1, 1, FULL);
        }
        SearchMachine again = fullWith(2);
        Checks.due("drop()", again.drop(), 13);
        Checks.due("room for one", again.step(SET, 3, 20), 13);
        Checks.due("the one is done", again.value(0, 3), 20);
        Checks.due("full again", again.step(SET, 3, 19), FULL);
        Checks.due("and the same", again.value(0, 3), 20);
    }

    private static void dropAnswersTheNumberLeft() {
        Checks.about("Promise 3: answers the number left");
        SearchMachine x = fullWith(3);
        for (int left = 13; left >= 0; left--) {
            Checks.due("drop()", x.drop(), left);
            Checks.due("length()", x.length(), left);
        }
    }

    private static void dropTakesTheLastStep() {
        Checks.about("Promise 3: Takes the last step away");
        SearchMachine x = program(SET, 0, 1, CHOOSE, 0, range(2, 3), CHOOSE, 0, range(4, 6));
        dueColumn("three steps", x, 0, 4, 5, 6, 4, 5, 6);
        x.drop();
        dueColumn("two steps", x, 0, 2, 3);
        x.drop();
        dueColumn("one step", x, 0, 1);
        x.drop();
        dueColumn("no step", x, 0, 0);
        // A choosing step that was taken away makes room for another; any other step does not.
        SearchMachine choosing = program(PICK, 0, 0, EITHER, 0, 0, CHOOSE, 0, 0);
        choosing.drop();
        Checks.due("a third in its place", choosing.step(PICK, 0, 0), 2);
        Checks.due("another kind", choosing.step(SET, 0, 0), 3);
        choosing.drop();
        Checks.due("still no fourth", choosing.step(PICK, 0, 0), BAD);
    }

    private static void dropOfNone() {
        Checks.about("Promise 3: BAD when there is none.");
        SearchMachine fresh = new SearchMachine();
        int[] before = picture(fresh);
        for (int call = 0; call < 20; call++) {
            Checks.due("drop() of a new object", fresh.drop(), BAD);
        }
        duePicture("a new object that refused to drop", fresh, before);
        Checks.due("its first step", fresh.step(SET, 0, 5), 0);
        Checks.due("drop() of the one step", fresh.drop(), 0);
        Checks.due("drop() of none again", fresh.drop(), BAD);
        duePicture("an emptied object", fresh, before);
    }

    private static void lengthFromEmptyToFull() {
        Checks.about("Promise 4: The number of steps.");
        SearchMachine x = new SearchMachine();
        for (int steps = 0; steps < 14; steps++) {
            Checks.due("length()", x.length(), steps);
            x.step(10, 0, 0);
            Checks.due("length() after a wrong step", x.length(), steps);
            x.step(DIFFER, 0, 0);
        }
        Checks.due("length() when full", x.length(), 14);
        x.step(DIFFER, 0, 0);
        Checks.due("length() when more than full", x.length(), 14);
        for (int steps = 13; steps >= 0; steps--) {
            x.drop();
            Checks.due("length() after drop", x.length(), steps);
        }
        x.drop();
        Checks.due("length() after a drop of none", x.length(), 0);
    }

    private static void answersFromNoneToTheMost() {
        Checks.about("Promise 5: The number of answers.");
        Checks.due("none", noAnswer().answers(), 0);
        Checks.due("the one of an empty program", new SearchMachine().answers(), 1);
        Checks.due("the most", most().answers(), 2197);
        SearchMachine all = most();
        for (int place = 3; place < 14; place++) {
            Checks.due("step", all.step(EQUAL, 3, 3), place);
        }
        Checks.due("the most of a full program", all.answers(), 2197);
        Checks.due("all but the last one", program(CHOOSE, 0, 192, SET, 1, 9, LESS, 0, 1).answers(), 12);
        Checks.due("the last one alone", program(CHOOSE, 0, 192, SET, 1, 9, EQUAL, 0, 1).answers(), 1);
    }

    private static void valueInTheOrderOfRuns() {
        Checks.about("Promise 6: The value of variable v in answer k (0 the first, in the order of runs)");
        SearchMachine x = most();
        for (int k = 0; k < 2197; k++) {
            // A new object in time: one is asked no more than 512 times.
            if (k % 100 == 0) {
                x = most();
            }
            dueAnswer("in order", x, k, k / 169 - 3, k / 13 % 13 - 3, k % 13 - 3, 0);
        }
    }

    private static void valueOfNoAnswer() {
        Checks.about("Promise 6: NONE when there is none");
        // Answers beyond the last are none even where an earlier question had more of them.
        SearchMachine x = most();
        Checks.due("value(2196, 0)", x.value(2196, 0), 9);
        for (int k : new int[] {-1, 2197, 2198, 8788, 1 << 28, 1 << 29, 1 << 30, MIN, MIN + 1, MAX}) {
            dueAnswer("of 2197", x, k, NONE, NONE, NONE, NONE);
        }
        x.step(LESS, 0, 0);
        dueAnswer("of none", x, 0, NONE, NONE, NONE, NONE);
        dueAnswer("of none", x, 2196, NONE, NONE, NONE, NONE);
        dueAnswer("of none", x, -1, NONE, NONE, NONE, NONE);
        x.drop();
        x.step(ONCE, 0, 0);
        dueAnswer("of one", x, 0, -3, -3, -3, 0);
        dueAnswer("of one", x, 1, NONE, NONE, NONE, NONE);
    }

    private static void valueOfNoVariable() {
        Checks.about("Promise 6: NONE when v is not 0 .. 3");
        for (int v : NO_VARIABLES) {
            SearchMachine x = program(CHOOSE, 0, range(1, 3));
            for (int k : new int[] {-1, 0, 1, 2, 3, MIN, MAX}) {
                Checks.due("value(" + k + ", " + v + ")", x.value(k, v), NONE);
            }
            Checks.due("value(0, " + v + ") of no answer", noAnswer().value(0, v), NONE);
        }
    }

    private static void valueThatLooksLikeNone() {
        Checks.about("Promise 6: The value of variable v (which may be the number that NONE is)");
        SearchMachine x = program(SET, 0, 10, SET, 1, 10, MUL, 0, 0, MUL, 0, 0, MUL, 0, 0, MUL, 0, 1, SET, 1, -1,
            MUL, 0, 1, PICK, 2, 0);
        dueColumn("-10^9 or 0", x, 2, NONE, 0);
        Checks.due("countWith", x.countWith(2, NONE), 1);
        Checks.due("firstWith", x.firstWith(2, NONE), 0);
        Checks.due("least", x.extreme(2, 0), NONE);
        Checks.due("greatest", x.extreme(2, 1), 0);
    }

    private static void countWithFromNoneToAll() {
        Checks.about("Promise 7: The number of answers in which variable v has the value x");
        SearchMachine x = most();
        for (int v = 0; v <= 2; v++) {
            Checks.due("countWith(v, -4)", x.countWith(v, -4), 0);
            Checks.due("countWith(v, -3)", x.countWith(v, -3), 169);
            Checks.due("countWith(v, 9)", x.countWith(v, 9), 169);
            Checks.due("countWith(v, 10)", x.countWith(v, 10), 0);
        }
        Checks.due("all", x.countWith(3, 0), 2197);
        for (int far : new int[] {MIN, MAX, NONE, BAD - 3, 65536, 256}) {
            Checks.due("countWith(3, " + far + ")", x.countWith(3, far), 0);
        }
        Checks.due("of no answer", noAnswer().countWith(0, 0), 0);
        Checks.due("of answers that are the same", program(PICK, 0, 0, PICK, 0, 0).countWith(0, 0), 4);
        SearchMachine ends = program(CHOOSE, 0, range(0, 4), MUL, 0, 0, SET, 1, 16, PICK, 0, 1);
        Checks.due("the last answers too", ends.countWith(0, 16), 6);
        Checks.due("the first answers too", program(CHOOSE, 0, range(0, 4)).countWith(0, 0), 1);
    }

    private static void countWithOfNoVariable() {
        Checks.about("Promise 7: 0 when v is not 0 .. 3");
        for (int v : NO_VARIABLES) {
            for (int x : new int[] {0, 1, NONE, MIN, MAX}) {
                Checks.due("countWith(" + v + ", " + x + ")", program(CHOOSE, 0, range(0, 1)).countWith(v, x), 0);
            }
        }
    }

    private static void firstWithFromFirstToLast() {
        Checks.about("Promise 8: The first answer in which variable v has the value x");
        SearchMachine x = most();
        Checks.due("the first of all", x.firstWith(0, -3), 0);
        Checks.due("the first of the last 169", x.firstWith(0, 9), 13 * 13 * 12);
        Checks.due("in the second place", x.firstWith(1, 9), 13 * 12);
        Checks.due("in the last place", x.firstWith(2, 9), 12);
        Checks.due("where all have it", x.firstWith(3, 0), 0);
        SearchMachine last = program(CHOOSE, 0, 192, CHOOSE, 1, 192, CHOOSE, 2, 192, MUL, 0, 1, MUL, 0, 2);
        Checks.due("the last of all", last.firstWith(0, 729), 2196);
    }

    private static void firstWithOfNone() {
        Checks.about("Promise 8: -1 when there is none");
        SearchMachine x = most();
        for (int far : new int[] {-4, 10, MIN, MAX, NONE}) {
            Checks.due("firstWith(0, " + far + ")", x.firstWith(0, far), -1);
        }
        Checks.due("of no answer", noAnswer().firstWith(0, 0), -1);
        // What an earlier question found must not be found again once the program is another one.
        Checks.due("firstWith(2, 9)", x.firstWith(2, 9), 12);
        x.step(ONCE, 0, 0);
        Checks.due("firstWith(2, 9) after ONCE", x.firstWith(2, 9), -1);
        x.step(LESS, 0, 0);
        Checks.due("firstWith(2, -3) when all fail", x.firstWith(2, -3), -1);
    }

    private static void firstWithOfNoVariable() {
        Checks.about("Promise 8: -1 when v is not 0 .. 3");
        for (int v : NO_VARIABLES) {
            for (int x : new int[] {0, 1, NONE, MIN, MAX}) {
                Checks.due("firstWith(" + v + ", " + x + ")", program(CHOOSE, 0, range(0, 1)).firstWith(v, x), -1);
            }
        }
    }

    private static void extremeLeast() {
        Checks.about("Promise 9: The least (what 0) value of variable v in an answer");
        Checks.due("in the first answer", program(CHOOSE, 1, range(2, 9)).extreme(1, 0), 2);
        Checks.due("in the last answer", program(CHOOSE, 1, range(2, 9), SET, 0, -1, MUL, 1, 0).extreme(1, 0), -9);
        Checks.due("in the middle", program(CHOOSE, 1, range(-3, 3), MUL, 1, 1).extreme(1, 0), 0);
        Checks.due("of one answer", program(SET, 1, 20).extreme(1, 0), 20);
        Checks.due("of all the same", program(EITHER, 2, 2).extreme(2, 0), 1);
        Checks.due("the least int", bothEnds().extreme(2, 0), MIN);
        Checks.due("of 2197", most().extreme(2, 0), -3);
    }

    private static void extremeGreatest() {
        Checks.about("Promise 9: The greatest (what 1) value of variable v in an answer");
        Checks.due("in the last answer", program(CHOOSE, 1, range(-3, -2)).extreme(1, 1), -2);
        Checks.due("in the first answer", program(CHOOSE, 1, range(2, 9), SET, 0, -1, MUL, 1, 0).extreme(1, 1), -2);
        SearchMachine hill = program(CHOOSE, 1, range(-3, 3), MUL, 1, 1, SET, 0, -1, MUL, 1, 0);
        Checks.due("in the middle", hill.extreme(1, 1), 0);
        Checks.due("of one answer", program(SET, 1, -20).extreme(1, 1), -20);
        Checks.due("of all the same", program(EITHER, 2, 2).extreme(2, 1), 1);
        Checks.due("the greatest int", bothEnds().extreme(2, 1), MAX);
        Checks.due("of 2197", most().extreme(2, 1), 9);
    }

    /** Variable 2 is the least int in one answer and the greatest in the other. */
    private static SearchMachine bothEnds() {
        return program(SET, 0, 8, MUL, 0, 0, MUL, 0, 0, MUL, 0, 0, SET, 1, 8, MUL, 0, 1, MUL, 0, 1, ADD, 0, 0,
            SET, 2, -1, ADD, 2, 0, PICK, 2, 0);
    }

    private static void extremeOfNoAnswer() {
        Checks.about("Promise 9: NONE when there is none");
        for (int v = 0; v <= 3; v++) {
            for (int what = 0; what <= 1; what++) {
                Checks.due("after a failed test", noAnswer().extreme(v, what), NONE);
                Checks.due("after nothing to choose", program(CHOOSE, 0, range(1, 0)).extreme(v, what), NONE);
                SearchMachine x = most();
                Checks.due("with answers", x.extreme(3, what), 0);
                x.step(DIFFER, 3, 3);
                Checks.due("when they are gone", x.extreme(v, what), NONE);
            }
        }
    }

    private static void extremeOfNoVariable() {
        Checks.about("Promise 9: NONE when v is no such number");
        for (int v : NO_VARIABLES) {
            for (int what = 0; what <= 1; what++) {
                Checks.due("extreme(" + v + ", " + what + ")", program(EITHER, 0, 3).extreme(v, what), NONE);
            }
        }
    }

    private static void extremeOfNoSuchWhat() {
        Checks.about("Promise 9: NONE when what is no such number");
        for (int what : NO_WHAT) {
            for (int v = -1; v <= 4; v++) {
                Checks.due("extreme(" + v + ", " + what + ")", program(EITHER, 0, 3).extreme(v, what), NONE);
            }
        }
    }

    private static void waysFromNoStepToAll() {
        Checks.about("Promise 10: The number of ways in which the first n steps can be done without failing");
        SearchMachine x = program(CHOOSE, 0, range(-3, 9), CHOOSE, 1, range(-3, 9), CHOOSE, 2, range(-3, 9),
            LESS, 0, 1, LESS, 1, 2, EQUAL, 0, 1, SET, 0, 0);
        int[] ways = {1, 13, 169, 2197, 1014, 286, 0, 0};
        for (int n = 0; n < ways.length; n++) {
            Checks.due("ways(" + n + ")", x.ways(n), ways[n]);
        }
        Checks.due("answers() are the ways of all steps", x.answers(), 0);
        Checks.due("of no step, whatever follows", program(LESS, 0, 0).ways(0), 1);
        SearchMachine full = fullWith(3);
        Checks.due("ways(13) of a full program", full.ways(13), 8);
        Checks.due("ways(14) of a full program", full.ways(14), 8);
        Checks.due("ways that end alike", program(PICK, 0, 0, SET, 0, 1).ways(2), 2);
    }

    private static void waysAtOnce() {
        Checks.about("Promise 10: only one at most is left at each ONCE among them");
        SearchMachine x = program(CHOOSE, 0, range(0, 2), ONCE, 0, 0, EITHER, 1, 2, ONCE, 0, 0, PICK, 3, 1, DIFFER, 3, 1,
            DIFFER, 3, 3, ONCE, 0, 0);
        int[] ways = {1, 3, 1, 2, 1, 2, 1, 0, 0};
        for (int n = 0; n < ways.length; n++) {
            Checks.due("ways(" + n + ")", x.ways(n), ways[n]);
        }
        // A ONCE that comes after the first n steps is not among them.
        SearchMachine later = program(CHOOSE, 0, range(0, 2), ONCE, 0, 0);
        Checks.due("ways(1)", later.ways(1), 3);
        Checks.due("ways(2)", later.ways(2), 1);
    }

    private static void waysOutside() {
        Checks.about("Promise 10: BAD when n is not from 0 to the number of steps");
        SearchMachine x = new SearchMachine();
        for (int steps = 0; steps <= 14; steps++) {
            Checks.due("ways(-1) of " + steps, x.ways(-1), BAD);
            Checks.due("ways(" + (steps + 1) + ") of " + steps, x.ways(steps + 1), BAD);
            Checks.due("ways(MIN) of " + steps, x.ways(MIN), BAD);
            Checks.due("ways(MAX) of " + steps, x.ways(MAX), BAD);
            Checks.due("ways(0) of " + steps, x.ways(0), 1);
            Checks.due("ways(" + steps + ") of " + steps, x.ways(steps), 1);
            x.step(SET, 0, 0);
        }
        // A step that was dropped stands in the program no more.
        x.drop();
        Checks.due("ways(14) after drop", x.ways(14), BAD);
        Checks.due("ways(13) after drop", x.ways(13), 1);
        Checks.due("ways(3) where no run is left", noAnswer().ways(3), BAD);
    }

    private static void badBeforeFull() {
        Checks.about("Promise 11: with 14 steps a wrong kind, variable or number is BAD");
        SearchMachine kinds = fullWith(2);
        for (int kind : new int[] {-1, 10, MIN, MAX}) {
            dueRefused(kinds, kind, 0, 0, BAD);
        }
        for (int kind = 0; kind <= 9; kind++) {
            SearchMachine x = fullWith(2);
            if (kind != ONCE) {
                dueRefused(x, kind, -1, 0, BAD);
                dueRefused(x, kind, 4, 0, BAD);
            }
            if (kind != ONCE && kind != CHOOSE && kind != SET) {
                dueRefused(x, kind, 0, -1, BAD);
                dueRefused(x, kind, 0, 4, BAD);
            }
        }
        SearchMachine numbers = fullWith(2);
        dueRefused(numbers, SET, 0, -21, BAD);
        dueRefused(numbers, SET, 0, 21, BAD);
        dueRefused(numbers, CHOOSE, 0, -1, BAD);
        dueRefused(numbers, CHOOSE, 0, 13, BAD);
        dueRefused(numbers, CHOOSE, 0, 208, BAD);
    }

    private static void fourthChoosingBeforeFull() {
        Checks.about("Promise 11: with 14 steps a fourth CHOOSE, PICK or EITHER is BAD");
        for (int kind : new int[] {CHOOSE, PICK, EITHER}) {
            dueRefused(fullWith(3), kind, 0, 0, BAD);
            dueRefused(fullWith(2), kind, 0, 0, FULL);
            dueRefused(fullWith(0), kind, 0, 0, FULL);
        }
    }

    private static void fullWhenNothingIsBad() {
        Checks.about("Promise 11: every case of BAD is tested before FULL (and FULL comes when none is)");
        for (int kind = 0; kind <= 9; kind++) {
            if (!isChoosing(kind)) {
                dueRefused(fullWith(3), kind, 3, 3, FULL);
            }
        }
        SearchMachine x = fullWith(3);
        dueRefused(x, SET, 0, -20, FULL);
        dueRefused(x, SET, 0, 20, FULL);
        dueRefused(x, ONCE, MIN, MAX, FULL);
    }

    private static void questionsChangeNothing() {
        Checks.about("Promises 4 to 10: a question, a refused one too, changes no state");
        SearchMachine x = program(CHOOSE, 0, range(1, 3), EITHER, 1, 2, DIFFER, 0, 1);
        int[] before = picture(x);
        for (int wrong : new int[] {-1, 4, MIN, MAX}) {
            x.value(wrong, 0);
            x.value(0, wrong);
            x.countWith(wrong, 0);
            x.firstWith(wrong, 0);
            x.extreme(wrong, 0);
            x.extreme(0, wrong);
            x.ways(wrong);
            duePicture("after wrong questions with " + wrong, x, before);
        }
        Checks.due("the next step", x.step(SET, 0, 0), 3);
    }
}
