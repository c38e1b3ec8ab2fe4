/** Each promise of the document, with ordinary inputs, the edges it names, and wrong inputs. */
public final class PromisesTest extends Programs {
    public static void main(String[] args) {
        promise1NewObject();
        promise1ObjectsAreApart();
        promise2StepPlaces();
        promise2StepWrongKinds();
        promise2StepWrongVariables();
        promise2StepWrongNumbers();
        promise2StepFourthChoosing();
        promise2StepFull();
        promise3Drop();
        promise3DropFreesAChoosing();
        promise4Length();
        promise5Answers();
        promise6Value();
        promise7CountWith();
        promise8FirstWith();
        promise9Extreme();
        promise10Ways();
        promise11BadBeforeFull();
        termsOrder();
        termsArithmetic();
        termsTests();
        termsPickAndEither();
        termsOnce();
        termsWrap();
        Checks.end("PromisesTest");
    }

    private static void promise1NewObject() {
        SearchMachine x = new SearchMachine();
        Checks.due("new: length()", x.length(), 0);
        Checks.due("new: answers()", x.answers(), 1);
        dueAnswer("new", x, 0, 0, 0, 0, 0);
        Checks.due("new: ways(0)", x.ways(0), 1);
        Checks.due("new: drop()", x.drop(), BAD);
        Checks.due("new: step", x.step(ONCE, 0, 0), 0);
    }

    private static void promise1ObjectsAreApart() {
        SearchMachine one = program(CHOOSE, 0, range(1, 4));
        SearchMachine other = program(SET, 0, 7, SET, 1, 8);
        Checks.due("one: answers()", one.answers(), 4);
        Checks.due("other: answers()", other.answers(), 1);
        Checks.due("one: value(3, 0)", one.value(3, 0), 4);
        Checks.due("other: value(0, 0)", other.value(0, 0), 7);
        Checks.due("one: length()", one.length(), 1);
        Checks.due("other: length()", other.length(), 2);
    }

    private static void promise2StepPlaces() {
        SearchMachine x = new SearchMachine();
        int[] kinds = {CHOOSE, SET, ADD, MUL, PICK, LESS, EQUAL, DIFFER, ONCE, EITHER};
        for (int place = 0; place < kinds.length; place++) {
            dueStep(x, kinds[place], 0, kinds[place] == CHOOSE ? range(0, 1) : 0, place);
        }
        for (int place = kinds.length; place < 14; place++) {
            dueStep(x, SET, 3, place, place);
        }
    }

    private static void promise2StepWrongKinds() {
        SearchMachine x = new SearchMachine();
        for (int kind : new int[] {-1, 10, -2, 11, 16, 256, MIN, MAX}) {
            dueStep(x, kind, 0, 0, BAD);
        }
    }

    private static void promise2StepWrongVariables() {
        int[] wrong = {-1, 4, 5, -4, 256, MIN, MAX};
        for (int kind = 0; kind <= 9; kind++) {
            if (kind == ONCE) {
                continue;
            }
            SearchMachine x = new SearchMachine();
            for (int variable : wrong) {
                dueStep(x, kind, variable, 0, BAD);
                if (kind != CHOOSE && kind != SET) {
                    dueStep(x, kind, 0, variable, BAD);
                }
            }
            for (int variable = 0; variable <= 3; variable++) {
                dueStep(x, kind, variable, 0, 0);
                x.drop();
                dueStep(x, kind, 0, kind == CHOOSE ? range(variable, 3) : variable, 0);
                x.drop();
            }
        }
        for (int number : new int[] {-1, 0, 4, 99, -99, MIN, MAX}) {
            SearchMachine x = new SearchMachine();
            dueStep(x, ONCE, number, 0, 0);
            Checks.due("ONCE with any a: answers()", x.answers(), 1);
            x.drop();
            dueStep(x, ONCE, 0, number, 0);
            Checks.due("ONCE with any bc: answers()", x.answers(), 1);
            x.drop();
        }
    }

    private static void promise2StepWrongNumbers() {
        SearchMachine set = new SearchMachine();
        for (int number : new int[] {-21, 21, 22, -22, 1000, MIN, MAX}) {
            dueStep(set, SET, 0, number, BAD);
        }
        SearchMachine least = program(SET, 0, -20);
        Checks.due("SET 0 -20", least.value(0, 0), -20);
        SearchMachine greatest = program(SET, 0, 20);
        Checks.due("SET 0 20", greatest.value(0, 0), 20);

        for (int bc = -40; bc <= 600; bc++) {
            SearchMachine x = new SearchMachine();
            boolean right = bc >= 0 && bc % 16 <= 12 && bc / 16 <= 12;
            dueStep(x, CHOOSE, 0, bc, right ? 0 : BAD);
            if (right) {
                int b = bc % 16 - 3;
                int c = bc / 16 - 3;
                int count = b > c ? 0 : c - b + 1;
                Checks.due("CHOOSE 0 " + b + " " + c + ": answers()", x.answers(), count);
                Checks.due("CHOOSE 0 " + b + " " + c + ": least", x.extreme(0, 0), b > c ? NONE : b);
                Checks.due("CHOOSE 0 " + b + " " + c + ": greatest", x.extreme(0, 1), b > c ? NONE : c);
            }
        }
        SearchMachine x = new SearchMachine();
        for (int bc : new int[] {MIN, MIN + 1, MIN + 16, MAX, MAX - 15, 65536, 256 * 16, 13 * 16, 1 << 30}) {
            dueStep(x, CHOOSE, 0, bc, BAD);
        }
    }

    private static void promise2StepFourthChoosing() {
        int[] choosing = {CHOOSE, PICK, EITHER};
        for (int first : choosing) {
            for (int second : choosing) {
                for (int third : choosing) {
                    SearchMachine x = program(first, 0, 0, SET, 1, 1, second, 0, 0, third, 0, 0);
                    for (int fourth : choosing) {
                        dueStep(x, fourth, 0, 0, BAD);
                    }
                    for (int kind = 0; kind <= 9; kind++) {
                        if (kind != CHOOSE && kind != PICK && kind != EITHER) {
                            dueStep(x, kind, 0, 0, x.length());
                        }
                    }
                    dueStep(x, first, 0, 0, BAD);
                }
            }
        }
    }

    private static void promise2StepFull() {
        SearchMachine x = fullOf(SET, 0, 5);
        for (int kind = 0; kind <= 9; kind++) {
            dueStep(x, kind, 0, 0, FULL);
        }
        Checks.due("full: value(0, 0)", x.value(0, 0), 5);
        Checks.due("full: drop()", x.drop(), 13);
        dueStep(x, SET, 0, 6, 13);
        Checks.due("full anew: value(0, 0)", x.value(0, 0), 6);
        dueStep(x, SET, 0, 7, FULL);
        Checks.due("full still: value(0, 0)", x.value(0, 0), 6);
    }

    private static void promise3Drop() {
        SearchMachine x = program(SET, 0, 1, SET, 0, 2, SET, 0, 3);
        Checks.due("drop() of three", x.drop(), 2);
        Checks.due("value after it", x.value(0, 0), 2);
        Checks.due("drop() of two", x.drop(), 1);
        Checks.due("value after it", x.value(0, 0), 1);
        Checks.due("drop() of one", x.drop(), 0);
        Checks.due("value after it", x.value(0, 0), 0);
        Checks.due("drop() of none", x.drop(), BAD);
        Checks.due("drop() of none again", x.drop(), BAD);
        Checks.due("length() after it", x.length(), 0);
        dueStep(x, SET, 0, 9, 0);
        Checks.due("value after a new step", x.value(0, 0), 9);
        SearchMachine full = fullOf(ONCE, 0, 0);
        for (int left = 13; left >= 0; left--) {
            Checks.due("drop() of a full one", full.drop(), left);
        }
        Checks.due("drop() of an emptied one", full.drop(), BAD);
    }

    private static void promise3DropFreesAChoosing() {
        for (int kind : new int[] {CHOOSE, PICK, EITHER}) {
            SearchMachine x = program(kind, 0, 0, kind, 0, 0, kind, 0, 0);
            dueStep(x, EITHER, 0, 0, BAD);
            Checks.due("drop()", x.drop(), 2);
            dueStep(x, EITHER, 0, 0, 2);
            dueStep(x, PICK, 0, 0, BAD);
        }
        SearchMachine other = program(PICK, 0, 0, PICK, 0, 0, PICK, 0, 0, SET, 0, 0);
        Checks.due("drop() of a SET", other.drop(), 3);
        dueStep(other, CHOOSE, 0, 0, BAD);
    }

    private static void promise4Length() {
        SearchMachine x = new SearchMachine();
        for (int place = 0; place < 14; place++) {
            Checks.due("length()", x.length(), place);
            x.step(LESS, 0, 0);
        }
        Checks.due("length() when full", x.length(), 14);
        x.answers();
        x.ways(3);
        x.value(0, 0);
        x.countWith(0, 0);
        x.firstWith(0, 0);
        x.extreme(0, 0);
        Checks.due("length() after questions", x.length(), 14);
        x.drop();
        Checks.due("length() after drop", x.length(), 13);
    }

    private static void promise5Answers() {
        Checks.due("no choice", program(SET, 0, 3).answers(), 1);
        Checks.due("one number", program(CHOOSE, 0, range(4, 4)).answers(), 1);
        Checks.due("all numbers", program(CHOOSE, 0, range(-3, 9)).answers(), 13);
        Checks.due("nothing to choose", program(CHOOSE, 0, range(4, 3)).answers(), 0);
        Checks.due("nothing to choose, later", program(CHOOSE, 0, range(0, 5), CHOOSE, 1, range(9, -3)).answers(), 0);
        Checks.due("nothing to choose, then more", program(CHOOSE, 0, range(9, -3), CHOOSE, 1, range(0, 5)).answers(), 0);
        Checks.due("fails for all", program(DIFFER, 0, 1).answers(), 0);
        Checks.due("the same answer twice", program(PICK, 0, 0).answers(), 2);
        SearchMachine most = program(CHOOSE, 0, 192, CHOOSE, 0, 192, CHOOSE, 0, 192);
        Checks.due("the most", most.answers(), 2197);
        Checks.due("the most, asked again", most.answers(), 2197);
        most.step(SET, 0, 0);
        Checks.due("the most, all the same", most.answers(), 2197);
        Checks.due("the most, all the same, counted", most.countWith(0, 0), 2197);
    }

    private static void promise6Value() {
        SearchMachine x = program(CHOOSE, 0, range(1, 2), CHOOSE, 3, range(5, 7));
        dueAnswer("value", x, 0, 1, 0, 0, 5);
        dueAnswer("value", x, 1, 1, 0, 0, 6);
        dueAnswer("value", x, 2, 1, 0, 0, 7);
        dueAnswer("value", x, 3, 2, 0, 0, 5);
        dueAnswer("value", x, 4, 2, 0, 0, 6);
        dueAnswer("value", x, 5, 2, 0, 0, 7);
        for (int k : new int[] {-1, 6, 7, 2196, 2197, 536870912, 1 << 30, MIN, MAX}) {
            dueAnswer("no such answer", x, k, NONE, NONE, NONE, NONE);
        }
        for (int v : new int[] {-1, 4, 5, -4, MIN, MAX}) {
            for (int k = -1; k <= 6; k++) {
                Checks.due("value(" + k + ", " + v + ")", x.value(k, v), NONE);
            }
        }
        dueAnswer("no answer at all", program(LESS, 0, 0), 0, NONE, NONE, NONE, NONE);
        // Ways that an earlier question found must not show once the program is shorter.
        x.drop();
        dueAnswer("after drop", x, 1, 2, 0, 0, 0);
        dueAnswer("after drop", x, 2, NONE, NONE, NONE, NONE);
    }

    private static void promise7CountWith() {
        SearchMachine x = program(CHOOSE, 0, range(0, 3), CHOOSE, 1, range(0, 3), ADD, 2, 0, ADD, 2, 1);
        int[] counts = {1, 2, 3, 4, 3, 2, 1};
        for (int sum = 0; sum < counts.length; sum++) {
            Checks.due("countWith(2, " + sum + ")", x.countWith(2, sum), counts[sum]);
        }
        Checks.due("countWith(2, -1)", x.countWith(2, -1), 0);
        Checks.due("countWith(2, 7)", x.countWith(2, 7), 0);
        Checks.due("countWith(3, 0)", x.countWith(3, 0), 16);
        Checks.due("countWith(0, 2)", x.countWith(0, 2), 4);
        for (int v : new int[] {-1, 4, 5, MIN, MAX}) {
            Checks.due("countWith(" + v + ", 0)", x.countWith(v, 0), 0);
        }
        Checks.due("countWith with no answer", program(DIFFER, 0, 0).countWith(0, 0), 0);
        Checks.due("countWith(0, NONE)", x.countWith(0, NONE), 0);
    }

    private static void promise8FirstWith() {
        SearchMachine x = program(CHOOSE, 0, range(0, 3), CHOOSE, 1, range(0, 3), ADD, 2, 0, ADD, 2, 1);
        int[] firsts = {0, 1, 2, 3, 7, 11, 15};
        for (int sum = 0; sum < firsts.length; sum++) {
            Checks.due("firstWith(2, " + sum + ")", x.firstWith(2, sum), firsts[sum]);
        }
        Checks.due("firstWith(2, -1)", x.firstWith(2, -1), -1);
        Checks.due("firstWith(2, 7)", x.firstWith(2, 7), -1);
        Checks.due("firstWith(3, 0)", x.firstWith(3, 0), 0);
        for (int v : new int[] {-1, 4, 5, MIN, MAX}) {
            Checks.due("firstWith(" + v + ", 0)", x.firstWith(v, 0), -1);
        }
        Checks.due("firstWith with no answer", program(DIFFER, 0, 0).firstWith(0, 0), -1);
    }

    private static void promise9Extreme() {
        SearchMachine x = program(CHOOSE, 0, range(-2, 5), SET, 1, -1, MUL, 1, 0, MUL, 2, 0, SET, 3, 7);
        Checks.due("extreme(0, 0)", x.extreme(0, 0), -2);
        Checks.due("extreme(0, 1)", x.extreme(0, 1), 5);
        Checks.due("extreme(1, 0)", x.extreme(1, 0), -5);
        Checks.due("extreme(1, 1)", x.extreme(1, 1), 2);
        Checks.due("extreme(2, 0)", x.extreme(2, 0), 0);
        Checks.due("extreme(2, 1)", x.extreme(2, 1), 0);
        Checks.due("extreme(3, 0)", x.extreme(3, 0), 7);
        Checks.due("extreme(3, 1)", x.extreme(3, 1), 7);
        SearchMachine negative = program(CHOOSE, 0, range(-3, -2));
        Checks.due("greatest of negative ones", negative.extreme(0, 1), -2);
        SearchMachine positive = program(CHOOSE, 0, range(8, 9));
        Checks.due("least of positive ones", positive.extreme(0, 0), 8);
        SearchMachine inside = program(CHOOSE, 0, range(-2, 3), MUL, 0, 0);
        Checks.due("least in the middle", inside.extreme(0, 0), 0);
        for (int what = 0; what <= 1; what++) {
            for (int v : new int[] {-1, 4, 5, MIN, MAX}) {
                Checks.due("extreme(" + v + ", " + what + ")", x.extreme(v, what), NONE);
            }
            Checks.due("extreme with no answer", program(LESS, 1, 0).extreme(0, what), NONE);
        }
        for (int what : new int[] {-1, 2, 3, MIN, MAX}) {
            for (int v = 0; v <= 3; v++) {
                Checks.due("extreme(" + v + ", " + what + ")", x.extreme(v, what), NONE);
            }
        }
    }

    private static void promise10Ways() {
        SearchMachine x = program(CHOOSE, 0, range(1, 4), SET, 1, 2, LESS, 1, 0, EITHER, 2, 3, ONCE, 0, 0,
            PICK, 1, 0, EQUAL, 1, 0, ONCE, 9, 9, DIFFER, 1, 0);
        int[] ways = {1, 4, 4, 2, 4, 1, 2, 1, 1, 0};
        for (int n = 0; n < ways.length; n++) {
            Checks.due("ways(" + n + ")", x.ways(n), ways[n]);
        }
        for (int n = ways.length - 1; n >= 0; n--) {
            Checks.due("ways(" + n + ") backwards", x.ways(n), ways[n]);
        }
        for (int n : new int[] {-1, 10, 11, 14, 15, MIN, MAX}) {
            Checks.due("ways(" + n + ")", x.ways(n), BAD);
        }
        Checks.due("answers() is of all steps still", x.answers(), 0);
        x.drop();
        Checks.due("ways(9) after drop", x.ways(9), BAD);
        Checks.due("ways(8) after drop", x.ways(8), 1);
        Checks.due("ways(14) of a full one", fullOf(SET, 0, 0).ways(14), 1);
        Checks.due("ways(15) of a full one", fullOf(SET, 0, 0).ways(15), BAD);
        Checks.due("ONCE of no way", program(LESS, 0, 0, ONCE, 0, 0).ways(2), 0);
    }

    private static void promise11BadBeforeFull() {
        SearchMachine x = new SearchMachine();
        for (int place = 0; place < 14; place++) {
            dueStep(x, place < 3 ? EITHER : SET, 0, 0, place);
        }
        dueStep(x, -1, 0, 0, BAD);
        dueStep(x, 10, 0, 0, BAD);
        dueStep(x, SET, 4, 0, BAD);
        dueStep(x, SET, -1, 0, BAD);
        dueStep(x, SET, 0, 21, BAD);
        dueStep(x, SET, 0, -21, BAD);
        dueStep(x, ADD, 0, 4, BAD);
        dueStep(x, LESS, 0, -1, BAD);
        dueStep(x, CHOOSE, 0, range(0, 1), BAD);
        dueStep(x, PICK, 0, 1, BAD);
        dueStep(x, EITHER, 0, 1, BAD);
        dueStep(x, SET, 0, 20, FULL);
        dueStep(x, ADD, 0, 3, FULL);
        dueStep(x, ONCE, 99, -99, FULL);
        SearchMachine free = fullOf(SET, 0, 0);
        dueStep(free, CHOOSE, 0, 13, BAD);
        dueStep(free, CHOOSE, 0, 256, BAD);
        dueStep(free, CHOOSE, 4, 0, BAD);
        dueStep(free, PICK, 0, 4, BAD);
        dueStep(free, EITHER, 4, 0, BAD);
        dueStep(free, CHOOSE, 0, 0, FULL);
        dueStep(free, PICK, 0, 0, FULL);
        dueStep(free, EITHER, 0, 0, FULL);
    }

    private static void termsOrder() {
        SearchMachine x = program(CHOOSE, 1, range(-1, 0), PICK, 2, 1, CHOOSE, 0, range(3, 4));
        Checks.due("order: answers()", x.answers(), 8);
        dueAnswer("order", x, 0, 3, -1, -1, 0);
        dueAnswer("order", x, 1, 4, -1, -1, 0);
        dueAnswer("order", x, 2, 3, -1, 0, 0);
        dueAnswer("order", x, 3, 4, -1, 0, 0);
        dueAnswer("order", x, 4, 3, 0, 0, 0);
        dueAnswer("order", x, 7, 4, 0, 0, 0);
        // The decision made first counts most, even when a later one hides what it chose.
        SearchMachine hidden = program(CHOOSE, 0, range(1, 3), ADD, 1, 0, CHOOSE, 0, range(7, 8));
        dueColumn("hidden, chosen last", hidden, 0, 7, 8, 7, 8, 7, 8);
        dueColumn("hidden, chosen first", hidden, 1, 1, 1, 2, 2, 3, 3);
        // The order is that of the decisions, not of the values at the end.
        SearchMachine turned = program(CHOOSE, 0, range(1, 3), SET, 1, -1, MUL, 0, 1);
        dueColumn("turned", turned, 0, -1, -2, -3);
    }

    private static void termsArithmetic() {
        SearchMachine x = program(SET, 0, 6, SET, 1, -7, ADD, 2, 0, ADD, 2, 1, MUL, 0, 1, ADD, 1, 1, MUL, 2, 2);
        dueAnswer("arithmetic", x, 0, -42, -14, 1, 0);
        SearchMachine over = program(SET, 3, 20, SET, 3, -20, MUL, 3, 3, ADD, 3, 3);
        dueAnswer("over", over, 0, 0, 0, 0, 800);
    }

    private static void termsTests() {
        int both = range(-1, 1);
        SearchMachine less = program(CHOOSE, 0, both, CHOOSE, 1, both, LESS, 0, 1);
        dueColumn("LESS", less, 0, -1, -1, 0);
        dueColumn("LESS", less, 1, 0, 1, 1);
        SearchMachine equal = program(CHOOSE, 0, both, CHOOSE, 1, both, EQUAL, 0, 1);
        dueColumn("EQUAL", equal, 0, -1, 0, 1);
        dueColumn("EQUAL", equal, 1, -1, 0, 1);
        SearchMachine differ = program(CHOOSE, 0, both, CHOOSE, 1, both, DIFFER, 0, 1);
        dueColumn("DIFFER", differ, 0, -1, -1, 0, 0, 1, 1);
        dueColumn("DIFFER", differ, 1, 0, 1, -1, 1, -1, 0);
        Checks.due("LESS of one variable", program(CHOOSE, 0, both, LESS, 0, 0).answers(), 0);
        Checks.due("EQUAL of one variable", program(CHOOSE, 0, both, EQUAL, 0, 0).answers(), 3);
        Checks.due("DIFFER of one variable", program(CHOOSE, 0, both, DIFFER, 0, 0).answers(), 0);
    }

    private static void termsPickAndEither() {
        SearchMachine pick = program(SET, 0, 5, SET, 1, 8, PICK, 1, 0);
        dueColumn("PICK becomes before it stays", pick, 1, 5, 8);
        dueColumn("PICK leaves the other one", pick, 0, 5, 5);
        dueColumn("PICK of the same", program(SET, 0, 5, PICK, 0, 0), 0, 5, 5);
        SearchMachine either = program(SET, 3, 5, SET, 2, 8, EITHER, 3, 2);
        dueColumn("EITHER a before b", either, 3, 6, 5);
        dueColumn("EITHER b", either, 2, 8, 9);
        dueColumn("EITHER of the same", program(EITHER, 1, 1), 1, 1, 1);
        SearchMachine three = program(EITHER, 0, 1, EITHER, 0, 1, EITHER, 0, 1);
        dueColumn("three EITHER", three, 0, 3, 2, 2, 1, 2, 1, 1, 0);
        SearchMachine picks = program(SET, 0, 1, PICK, 1, 0, EITHER, 0, 0, PICK, 2, 1);
        dueColumn("PICK of what a choice left", picks, 2, 1, 0, 1, 0, 0, 0, 0, 0);
    }

    private static void termsOnce() {
        SearchMachine x = program(CHOOSE, 0, range(2, 5), ONCE, 0, 0, CHOOSE, 1, range(0, 2));
        dueColumn("ONCE keeps the first", x, 0, 2, 2, 2);
        dueColumn("choices after ONCE", x, 1, 0, 1, 2);
        SearchMachine tested = program(CHOOSE, 0, range(2, 5), SET, 1, 3, LESS, 1, 0, ONCE, 0, 0);
        dueColumn("ONCE keeps the first that did not fail", tested, 0, 4);
        SearchMachine late = program(CHOOSE, 0, range(2, 5), SET, 1, 3, ONCE, 0, 0, LESS, 1, 0);
        Checks.due("ONCE does not go back", late.answers(), 0);
        SearchMachine twice = program(CHOOSE, 0, range(2, 5), ONCE, 0, 0, CHOOSE, 1, range(2, 5), DIFFER, 0, 1, ONCE, 0, 0);
        dueColumn("second ONCE", twice, 1, 3);
        SearchMachine start = program(ONCE, 0, 0, CHOOSE, 0, range(0, 2));
        dueColumn("ONCE at the start", start, 0, 0, 1, 2);
        SearchMachine none = program(CHOOSE, 0, range(5, 2), ONCE, 0, 0, CHOOSE, 0, range(0, 2));
        Checks.due("ONCE brings nothing back", none.answers(), 0);
        Checks.due("ONCE ahead of a fault it can't mend", program(ONCE, 0, 0, DIFFER, 0, 0, ONCE, 0, 0).answers(), 0);
    }

    private static void termsWrap() {
        int[] toMin = {SET, 0, 8, MUL, 0, 0, MUL, 0, 0, MUL, 0, 0, SET, 1, 8, MUL, 0, 1, MUL, 0, 1, ADD, 0, 0};
        SearchMachine x = program(toMin);
        Checks.due("a sum that wraps", x.value(0, 0), MIN);
        Checks.due("countWith of it", x.countWith(0, MIN), 1);
        Checks.due("firstWith of it", x.firstWith(0, MIN), 0);
        Checks.due("extreme of it", x.extreme(0, 1), MIN);
        dueStep(x, LESS, 0, 1, 8);
        Checks.due("the least int is less than 8", x.answers(), 1);
        dueStep(x, SET, 2, -1, 9);
        dueStep(x, ADD, 2, 0, 10);
        Checks.due("a sum that wraps downwards", x.value(0, 2), MAX);
        dueStep(x, EITHER, 2, 0, 11);
        dueColumn("growth that wraps", x, 2, MIN, MAX);
        Checks.due("least of both ends", x.extreme(2, 0), MIN);
        Checks.due("greatest of both ends", x.extreme(2, 1), MAX);
        dueStep(x, LESS, 0, 2, 12);
        dueColumn("only the greatest is above the least", x, 2, MAX);
        SearchMachine product = program(SET, 0, 20, MUL, 0, 0, MUL, 0, 0, MUL, 0, 0);
        Checks.due("a product that wraps", product.value(0, 0), (int) 25600000000L);
    }
}
