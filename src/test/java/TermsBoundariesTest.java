/** Each sentence of "What it is" and "Terms" that names a boundary case, in a test of its own. */
public final class TermsBoundariesTest extends Programs {
    private static final int[] CHOOSING = {CHOOSE, PICK, EITHER};

    // Eight steps that leave the least int in variable 0 and 8 in variable 1.
    private static final int[] LEAST_INT = {SET, 0, 8, MUL, 0, 0, MUL, 0, 0, MUL, 0, 0, SET, 1, 8, MUL, 0, 1,
        MUL, 0, 1, ADD, 0, 0};

    public static void main(String[] args) {
        usedForAtMost512Calls();
        atMost14Steps();
        fourVariables();
        zeroAtFirst();
        variablesAreInts();
        stepsInTheirOrder();
        chooseAnyNumberFromBToC();
        chooseRangeOfB();
        chooseRangeOfC();
        chooseNothing();
        setRange();
        addOfOneVariable();
        mulOfOneVariable();
        pickTwoWays();
        pickTwoWaysEvenWhenTheSame();
        lessAtItsEdge();
        equalAtItsEdge();
        differAtItsEdge();
        onceOfNoWay();
        onceOfOneWay();
        onceOfManyWays();
        eitherTwoWays();
        eitherTwoWaysEvenWhenTheSame();
        decisionMadeFirstCountsMost();
        lesserNumbersFirst();
        becomingBeforeStaying();
        aBeforeB();
        answerIsWhatStandsAtTheEnd();
        atMostThreeChoosing();
        sumsWrap();
        productsWrap();
        growthWraps();
        Checks.end("TermsBoundariesTest");
    }

    private static void usedForAtMost512Calls() {
        Checks.about("An object is used for at most 512 calls after it has been made");
        SearchMachine refused = new SearchMachine();
        for (int call = 1; call <= 510; call++) {
            Checks.due("call " + call, refused.step(10, 0, 0), BAD);
        }
        Checks.due("call 511: step(1, 0, 7)", refused.step(SET, 0, 7), 0);
        Checks.due("call 512: value(0, 0)", refused.value(0, 0), 7);

        SearchMachine asked = program(CHOOSE, 0, range(-3, 9), CHOOSE, 1, range(-3, 9), CHOOSE, 2, range(-3, 9));
        for (int call = 4; call <= 511; call++) {
            Checks.due("call " + call + ": answers()", asked.answers(), 2197);
        }
        Checks.due("call 512: value(2196, 2)", asked.value(2196, 2), 9);

        SearchMachine changed = new SearchMachine();
        for (int call = 1; call <= 510; call += 2) {
            Checks.due("call " + call + ": step", changed.step(EITHER, 0, 0), 0);
            Checks.due("call " + (call + 1) + ": drop()", changed.drop(), 0);
        }
        Checks.due("call 511: step(9, 0, 0)", changed.step(EITHER, 0, 0), 0);
        Checks.due("call 512: answers()", changed.answers(), 2);

        SearchMachine late = new SearchMachine();
        for (int call = 1; call <= 498; call++) {
            Checks.due("call " + call + ": drop()", late.drop(), BAD);
        }
        for (int place = 0; place < 14; place++) {
            Checks.due("call " + (499 + place) + ": step", late.step(ONCE, 0, 0), place);
        }
    }

    private static void atMost14Steps() {
        Checks.about("A PROGRAM is a list of at most 14 steps");
        SearchMachine x = program(SET, 0, 1);
        for (int place = 1; place < 14; place++) {
            Checks.due("step at " + place, x.step(ADD, 0, 0), place);
        }
        Checks.due("all 14 steps are done", x.value(0, 0), 8192);
        Checks.due("a 15th step", x.step(ADD, 0, 0), FULL);
        Checks.due("the 15th is not done", x.value(0, 0), 8192);
        Checks.due("length()", x.length(), 14);
    }

    private static void fourVariables() {
        Checks.about("it has variables 0 .. 3");
        for (int a = 0; a <= 3; a++) {
            SearchMachine x = program(SET, a, 20);
            for (int v = 0; v <= 3; v++) {
                Checks.due("SET " + a + ": value(0, " + v + ")", x.value(0, v), v == a ? 20 : 0);
            }
        }
        SearchMachine all = program(SET, 0, 5, SET, 1, 6, SET, 2, 7, SET, 3, 8);
        dueAnswer("all four", all, 0, 5, 6, 7, 8);
        Checks.due("variable -1", all.value(0, -1), NONE);
        Checks.due("variable 4", all.value(0, 4), NONE);
        Checks.due("SET -1", all.step(SET, -1, 0), BAD);
        Checks.due("SET 4", all.step(SET, 4, 0), BAD);
    }

    private static void zeroAtFirst() {
        Checks.about("0 at first");
        dueAnswer("an empty program", new SearchMachine(), 0, 0, 0, 0, 0);
        for (int b = 0; b <= 3; b++) {
            int a = (b + 1) % 4;
            SearchMachine x = program(SET, a, 5, MUL, a, b);
            Checks.due("5 times variable " + b, x.value(0, a), 0);
        }
        // What an earlier question left behind must not be what the next one starts from.
        SearchMachine used = program(CHOOSE, 0, range(5, 9), CHOOSE, 1, range(5, 9), CHOOSE, 2, range(5, 9), SET, 3, 9);
        Checks.due("answers()", used.answers(), 125);
        for (int left = 3; left >= 0; left--) {
            used.drop();
        }
        dueAnswer("all steps dropped", used, 0, 0, 0, 0, 0);
        used.step(ADD, 0, 3);
        dueAnswer("the sum of two that are 0", used, 0, 0, 0, 0, 0);
        dueAnswer("the same asked again", used, 0, 0, 0, 0, 0);
    }

    private static void variablesAreInts() {
        Checks.about("ints");
        SearchMachine x = program(LEAST_INT);
        Checks.due("the least int", x.value(0, 0), MIN);
        x.step(SET, 1, -1);
        x.step(ADD, 1, 0);
        Checks.due("the greatest int", x.value(0, 1), MAX);
        Checks.due("countWith(1, the greatest)", x.countWith(1, MAX), 1);
        Checks.due("firstWith(0, the least)", x.firstWith(0, MIN), 0);
    }

    private static void stepsInTheirOrder() {
        Checks.about("The steps are done in their order.");
        Checks.due("sum, then product", program(SET, 0, 3, SET, 1, 4, ADD, 0, 1, MUL, 0, 1).value(0, 0), 28);
        Checks.due("product, then sum", program(SET, 0, 3, SET, 1, 4, MUL, 0, 1, ADD, 0, 1).value(0, 0), 16);
        SearchMachine x = new SearchMachine();
        for (int place = 0; place < 14; place++) {
            x.step(SET, 2, place + 1);
            Checks.due("the last of " + (place + 1), x.value(0, 2), place + 1);
        }
    }

    private static void chooseAnyNumberFromBToC() {
        Checks.about("0 CHOOSE a b c: variable a becomes any number from b to c");
        for (int b = -3; b <= 9; b++) {
            for (int c = b; c <= 9; c++) {
                int[] numbers = new int[c - b + 1];
                for (int k = 0; k < numbers.length; k++) {
                    numbers[k] = b + k;
                }
                dueColumn("CHOOSE from " + b + " to " + c, program(CHOOSE, 3, range(b, c)), 3, numbers);
            }
        }
        // What the variable was before does not count.
        dueColumn("CHOOSE of one number after SET", program(SET, 1, 20, CHOOSE, 1, range(-3, -3)), 1, -3);
    }

    private static void dueChoose(int b, int c, int want) {
        dueStep(new SearchMachine(), CHOOSE, 0, range(b, c), want);
    }

    private static void chooseRangeOfB() {
        Checks.about("b from -3 to 9 (CHOOSE)");
        for (int c = -3; c <= 9; c++) {
            dueChoose(-4, c, BAD);
            dueChoose(-3, c, 0);
            dueChoose(9, c, 0);
            dueChoose(10, c, BAD);
            dueChoose(12, c, BAD);
        }
        dueColumn("b is -3", program(CHOOSE, 0, range(-3, -2)), 0, -3, -2);
        dueColumn("b is 9", program(CHOOSE, 0, range(9, 9)), 0, 9);
    }

    private static void chooseRangeOfC() {
        Checks.about("c from -3 to 9 (CHOOSE)");
        for (int b = -3; b <= 9; b++) {
            dueChoose(b, -4, BAD);
            dueChoose(b, -3, 0);
            dueChoose(b, 9, 0);
            dueChoose(b, 10, BAD);
            dueChoose(b, 12, BAD);
            dueChoose(b, 13, BAD);
            // The least and the greatest c that an int can carry in this form.
            dueChoose(b, -(1 << 27) - 3, BAD);
            dueChoose(b, (1 << 27) - 4, BAD);
        }
        dueColumn("c is -3", program(CHOOSE, 0, range(-3, -3)), 0, -3);
        dueColumn("c is 9", program(CHOOSE, 0, range(8, 9)), 0, 8, 9);
    }

    private static void chooseNothing() {
        Checks.about("when b is above c there is nothing to choose: the run FAILS");
        for (int b = -2; b <= 9; b++) {
            for (int c = -3; c < b; c++) {
                SearchMachine x = new SearchMachine();
                Checks.due("CHOOSE from " + b + " to " + c, x.step(CHOOSE, 0, range(b, c)), 0);
                Checks.due("CHOOSE from " + b + " to " + c + ": answers()", x.answers(), 0);
                Checks.due("CHOOSE from " + b + " to " + c + ": ways(1)", x.ways(1), 0);
            }
        }
        SearchMachine x = program(CHOOSE, 0, range(0, 4), CHOOSE, 1, range(1, 0), CHOOSE, 2, range(0, 4), SET, 0, 1);
        Checks.due("ways before it", x.ways(1), 5);
        Checks.due("ways after it", x.ways(2), 0);
        Checks.due("no later choice brings a run back", x.ways(3), 0);
        Checks.due("no later step brings a run back", x.answers(), 0);
        Checks.due("it counts as a choosing step", x.step(PICK, 0, 0), BAD);
        dueColumn("b is c: one number", program(CHOOSE, 0, range(1, 1)), 0, 1);
    }

    private static void setRange() {
        Checks.about("1 SET a b: variable a becomes b (-20 .. 20)");
        for (int b = -20; b <= 20; b++) {
            Checks.due("SET 2 " + b, program(SET, 2, b).value(0, 2), b);
        }
        for (int b : new int[] {-21, 21, -22, 22, MIN, MAX}) {
            dueStep(new SearchMachine(), SET, 2, b, BAD);
        }
    }

    private static void addOfOneVariable() {
        Checks.about("2 ADD a b: variable a becomes variable a + variable b");
        Checks.due("a is b", program(SET, 1, -20, ADD, 1, 1).value(0, 1), -40);
        dueAnswer("b stays", program(SET, 1, 20, SET, 2, -3, ADD, 1, 2), 0, 0, 17, -3, 0);
        Checks.due("0 is added", program(SET, 1, 20, ADD, 1, 0).value(0, 1), 20);
    }

    private static void mulOfOneVariable() {
        Checks.about("3 MUL a b: variable a becomes variable a * variable b");
        Checks.due("a is b", program(SET, 1, -20, MUL, 1, 1).value(0, 1), 400);
        dueAnswer("b stays", program(SET, 1, 20, SET, 2, -3, MUL, 1, 2), 0, 0, -60, -3, 0);
        Checks.due("times 0", program(SET, 1, 20, MUL, 1, 0).value(0, 1), 0);
    }

    private static void pickTwoWays() {
        Checks.about("4 PICK a b: variable a becomes variable b or stays as it is");
        SearchMachine x = program(SET, 0, -20, SET, 3, 20, PICK, 3, 0);
        dueColumn("a", x, 3, -20, 20);
        dueColumn("b stays", x, 0, -20, -20);
        Checks.due("ways(3)", x.ways(3), 2);
    }

    private static void pickTwoWaysEvenWhenTheSame() {
        Checks.about("two ways, even when they are the same (PICK)");
        for (int a = 0; a <= 3; a++) {
            for (int b = 0; b <= 3; b++) {
                // Both are 0, and so the two ways leave the same.
                SearchMachine x = program(PICK, a, b);
                Checks.due("PICK " + a + " " + b + ": ways(1)", x.ways(1), 2);
                Checks.due("PICK " + a + " " + b + ": countWith", x.countWith(a, 0), 2);
                dueColumn("PICK " + a + " " + b, x, a, 0, 0);
            }
        }
        Checks.due("equal numbers", program(SET, 0, 7, SET, 1, 7, PICK, 0, 1).answers(), 2);
        Checks.due("three PICK", program(PICK, 0, 0, PICK, 0, 0, PICK, 0, 0).answers(), 8);
    }

    private static void dueTest(int kind, int left, int right, boolean passes) {
        SearchMachine x = program(SET, 0, left, SET, 1, right, kind, 0, 1);
        Checks.due("kind " + kind + " of " + left + " and " + right, x.answers(), passes ? 1 : 0);
        if (passes) {
            dueAnswer("a test changes nothing", x, 0, left, right, 0, 0);
        }
    }

    /** Compares the least int (variable 0) with the greatest (variable 1): their difference wraps to 1. */
    private static void dueFarTest(int kind, int a, int b, boolean passes) {
        SearchMachine x = program(LEAST_INT);
        x.step(SET, 1, -1);
        x.step(ADD, 1, 0);
        Checks.due("step", x.step(kind, a, b), 10);
        Checks.due("kind " + kind + " of variables " + a + " and " + b, x.answers(), passes ? 1 : 0);
    }

    private static void lessAtItsEdge() {
        Checks.about("5 LESS a b: the run FAILS unless variable a is less than variable b");
        dueTest(LESS, 4, 5, true);
        dueTest(LESS, 5, 5, false);
        dueTest(LESS, 6, 5, false);
        dueTest(LESS, -1, 0, true);
        dueTest(LESS, 0, -1, false);
        dueTest(LESS, -20, 20, true);
        dueTest(LESS, 20, -20, false);
        Checks.due("a is b", program(LESS, 2, 2).answers(), 0);
        dueFarTest(LESS, 0, 1, true);
        dueFarTest(LESS, 1, 0, false);
    }

    private static void equalAtItsEdge() {
        Checks.about("6 EQUAL a b: the run FAILS unless variable a equals variable b");
        dueTest(EQUAL, 4, 5, false);
        dueTest(EQUAL, 5, 5, true);
        dueTest(EQUAL, 6, 5, false);
        dueTest(EQUAL, -5, 5, false);
        dueTest(EQUAL, 0, 0, true);
        Checks.due("a is b", program(SET, 2, 9, EQUAL, 2, 2).answers(), 1);
        dueFarTest(EQUAL, 0, 1, false);
        dueFarTest(EQUAL, 0, 0, true);
    }

    private static void differAtItsEdge() {
        Checks.about("7 DIFFER a b: the run FAILS unless variable a is not variable b");
        dueTest(DIFFER, 4, 5, true);
        dueTest(DIFFER, 5, 5, false);
        dueTest(DIFFER, 6, 5, true);
        dueTest(DIFFER, -5, 5, true);
        dueTest(DIFFER, 0, 0, false);
        Checks.due("a is b", program(SET, 2, 9, DIFFER, 2, 2).answers(), 0);
        dueFarTest(DIFFER, 0, 1, true);
        dueFarTest(DIFFER, 1, 1, false);
    }

    private static void onceOfNoWay() {
        Checks.about("8 ONCE: of all ways without failing (there is none)");
        Checks.due("after a failed test", program(DIFFER, 0, 0, ONCE, 0, 0).answers(), 0);
        Checks.due("after nothing to choose", program(CHOOSE, 0, range(9, 8), ONCE, 0, 0).answers(), 0);
        Checks.due("twice", program(LESS, 0, 0, ONCE, 0, 0, ONCE, 0, 0).answers(), 0);
        Checks.due("choices after it", program(LESS, 0, 0, ONCE, 0, 0, PICK, 0, 0).answers(), 0);
    }

    private static void onceOfOneWay() {
        Checks.about("8 ONCE: of all ways without failing (there is one)");
        Checks.due("first step", program(ONCE, 0, 0).answers(), 1);
        dueAnswer("after SET", program(SET, 0, 6, ONCE, 0, 0), 0, 6, 0, 0, 0);
        dueColumn("twice", program(CHOOSE, 0, range(3, 5), ONCE, 0, 0, ONCE, 0, 0), 0, 3);
        Checks.due("14 of them", fullOf(ONCE, 0, 0).answers(), 1);
    }

    private static void onceOfManyWays() {
        Checks.about("8 ONCE: only the first one goes on");
        dueColumn("two ways", program(EITHER, 0, 1, ONCE, 0, 0), 0, 1);
        SearchMachine most = program(CHOOSE, 0, 192, CHOOSE, 1, 192, CHOOSE, 2, 192, ONCE, 0, 0);
        Checks.due("2197 ways", most.answers(), 1);
        dueAnswer("2197 ways", most, 0, -3, -3, -3, 0);
        SearchMachine last = program(CHOOSE, 0, range(0, 9), SET, 1, 8, LESS, 1, 0, ONCE, 0, 0);
        dueColumn("the first one that does not fail is the last one of all", last, 0, 9);
        SearchMachine later = program(CHOOSE, 0, range(0, 9), SET, 1, 8, ONCE, 0, 0, LESS, 1, 0);
        Checks.due("it fails later, and no other one goes on", later.answers(), 0);
        SearchMachine open = program(EITHER, 0, 1, ONCE, 0, 0, EITHER, 2, 3);
        dueColumn("choices after it are open", open, 2, 1, 0);
    }

    private static void eitherTwoWays() {
        Checks.about("9 EITHER a b: variable a or else variable b grows by 1");
        SearchMachine x = program(SET, 0, -1, SET, 3, 20, EITHER, 0, 3);
        dueColumn("a", x, 0, 0, -1);
        dueColumn("b", x, 3, 20, 21);
        Checks.due("ways(3)", x.ways(3), 2);
    }

    private static void eitherTwoWaysEvenWhenTheSame() {
        Checks.about("two ways, even when a = b (EITHER)");
        for (int a = 0; a <= 3; a++) {
            SearchMachine x = program(SET, a, 4, EITHER, a, a);
            Checks.due("EITHER " + a + " " + a + ": ways(2)", x.ways(2), 2);
            Checks.due("EITHER " + a + " " + a + ": countWith", x.countWith(a, 5), 2);
            dueColumn("EITHER " + a + " " + a, x, a, 5, 5);
        }
        Checks.due("three EITHER", program(EITHER, 0, 0, EITHER, 0, 0, EITHER, 0, 0).countWith(0, 3), 8);
    }

    private static void decisionMadeFirstCountsMost() {
        Checks.about("runs are ordered by their decisions, the decision made first counting most");
        SearchMachine x = program(CHOOSE, 3, range(1, 2), EITHER, 1, 2, CHOOSE, 0, range(8, 9));
        dueColumn("made first", x, 3, 1, 1, 1, 1, 2, 2, 2, 2);
        dueColumn("made second", x, 1, 1, 1, 0, 0, 1, 1, 0, 0);
        dueColumn("made last", x, 0, 8, 9, 8, 9, 8, 9, 8, 9);
        // Runs that fail leave no gap.
        SearchMachine gaps = program(CHOOSE, 0, range(0, 2), CHOOSE, 1, range(0, 2), DIFFER, 0, 1);
        dueColumn("made first, with failed runs", gaps, 0, 0, 0, 1, 1, 2, 2);
        dueColumn("made last, with failed runs", gaps, 1, 1, 2, 0, 2, 0, 1);
    }

    private static void lesserNumbersFirst() {
        Checks.about("lesser numbers before greater ones");
        dueColumn("from below 0", program(CHOOSE, 0, range(-3, 2)), 0, -3, -2, -1, 0, 1, 2);
        SearchMachine turned = program(CHOOSE, 0, range(-1, 1), SET, 1, -1, MUL, 0, 1);
        dueColumn("the decisions count, not the values at the end", turned, 0, 1, 0, -1);
    }

    private static void becomingBeforeStaying() {
        Checks.about("for PICK becoming before staying");
        dueColumn("becoming greater", program(SET, 0, 9, PICK, 1, 0), 1, 9, 0);
        dueColumn("becoming less", program(SET, 0, -9, PICK, 1, 0), 1, -9, 0);
    }

    private static void aBeforeB() {
        Checks.about("for EITHER a before b");
        dueColumn("a is the lesser number", program(EITHER, 0, 3), 0, 1, 0);
        dueColumn("a is the greater number", program(EITHER, 3, 0), 0, 0, 1);
    }

    private static void answerIsWhatStandsAtTheEnd() {
        Checks.about("A run that does not fail is an ANSWER: the values that variables 0 .. 3 have at its end");
        Checks.due("the run of no step", new SearchMachine().answers(), 1);
        SearchMachine same = program(CHOOSE, 0, range(1, 9), SET, 0, 4);
        Checks.due("runs that end alike are answers apart", same.answers(), 9);
        Checks.due("and each has what stands at the end", same.countWith(0, 4), 9);
        Checks.due("a run that fails at its last step", program(SET, 0, 1, EQUAL, 0, 1).answers(), 0);
        Checks.due("a run that fails at its first step", program(DIFFER, 0, 1, SET, 0, 1).answers(), 0);
    }

    private static void atMostThreeChoosing() {
        Checks.about("At most three steps are CHOOSE, PICK or EITHER.");
        for (int number = 0; number < 81; number++) {
            SearchMachine x = new SearchMachine();
            Checks.due("first", x.step(CHOOSING[number % 3], 0, 0), 0);
            Checks.due("second", x.step(CHOOSING[number / 3 % 3], 0, 0), 1);
            Checks.due("another kind between", x.step(ADD, 1, 0), 2);
            Checks.due("third", x.step(CHOOSING[number / 9 % 3], 0, 0), 3);
            int[] before = picture(x);
            Checks.due("fourth", x.step(CHOOSING[number / 27], 0, 0), BAD);
            duePicture("a program that refused a fourth", x, before);
            Checks.due("another kind after", x.step(ADD, 1, 0), 4);
        }
        Checks.due("three leave 2197 answers", program(CHOOSE, 0, 192, CHOOSE, 0, 192, CHOOSE, 0, 192).answers(), 2197);
    }

    private static void sumsWrap() {
        Checks.about("Sums wrap.");
        SearchMachine x = program(LEAST_INT);
        Checks.due("2^30 + 2^30", x.value(0, 0), MIN);
        x.step(SET, 1, -1);
        x.step(ADD, 1, 0);
        Checks.due("-1 + the least", x.value(0, 1), MAX);
        x.step(ADD, 0, 0);
        Checks.due("the least + the least", x.value(0, 0), 0);
        x.step(ADD, 1, 1);
        Checks.due("the greatest + the greatest", x.value(0, 1), -2);
    }

    private static void productsWrap() {
        Checks.about("Products wrap.");
        SearchMachine x = program(SET, 0, 20, MUL, 0, 0, MUL, 0, 0, MUL, 0, 0);
        Checks.due("20^8", x.value(0, 0), (int) 25600000000L);
        SearchMachine least = program(LEAST_INT);
        least.step(SET, 2, -1);
        least.step(MUL, 2, 0);
        Checks.due("-1 * the least", least.value(0, 2), MIN);
        least.step(MUL, 2, 1);
        Checks.due("8 * the least", least.value(0, 2), 0);
        SearchMachine odd = program(SET, 0, 19, MUL, 0, 0, MUL, 0, 0, MUL, 0, 0, MUL, 0, 0);
        // 19^16 needs more than 64 bits; its last 32 are due all the same.
        Checks.due("19^16", odd.value(0, 0), java.math.BigInteger.valueOf(19).pow(16).intValue());
    }

    private static void growthWraps() {
        Checks.about("Sums wrap (the 1 of EITHER too).");
        SearchMachine x = program(LEAST_INT);
        x.step(SET, 1, -1);
        x.step(ADD, 1, 0);
        Checks.due("step", x.step(EITHER, 1, 0), 10);
        dueColumn("the greatest + 1", x, 1, MIN, MAX);
        dueColumn("the least + 1", x, 0, MIN, MIN + 1);
    }
}
