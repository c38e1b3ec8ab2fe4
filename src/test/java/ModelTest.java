/** Long runs of made-up calls, each answered by the class and by the model of the document. */
public final class ModelTest {
    private static final int OBJECTS = 1500;
    private static final int CALLS = 512;
    private static final int[] EDGES = {
        Integer.MIN_VALUE, Integer.MAX_VALUE, -1000000000, -256, -16, -4, -3, -2, -1, 4, 5, 10, 13, 14, 15, 16,
        21, -21, 207, 208, 255, 256, 2196, 2197, 65536, 1 << 28, 1 << 30};

    // A counted sequence in place of a random source: every run of the test makes the same calls.
    private long seed = 20261116L;

    public static void main(String[] args) {
        new ModelTest().run();
        Checks.end("ModelTest");
    }

    private void run() {
        for (int object = 0; object < OBJECTS; object++) {
            SearchMachine x = new SearchMachine();
            Model model = new Model();
            // How far a program grows differs from object to object, so that full ones are met too.
            int dropsInHundred = 2 + next(12);
            for (int call = 0; call < CALLS; call++) {
                compare("object " + object + " call " + call + ": ", x, model, dropsInHundred);
            }
        }
    }

    private int next(int below) {
        seed = seed * 6364136223846793005L + 1442695040888963407L;
        return (int) ((seed >>> 33) % below);
    }

    private int mostly(int least, int greatest) {
        return next(20) == 0 ? EDGES[next(EDGES.length)] : least + next(greatest - least + 1);
    }

    private void compare(String at, SearchMachine x, Model model, int dropsInHundred) {
        int lot = next(100);
        if (lot < dropsInHundred) {
            Checks.due(at + "drop()", x.drop(), model.drop());
        } else if (lot < 30) {
            compareStep(at, x, model);
        } else {
            compareQuestion(at, x, model);
        }
    }

    private void compareStep(String at, SearchMachine x, Model model) {
        int kind = mostly(0, 9);
        int a = mostly(0, 3);
        int bc = mostly(0, 3);
        if (kind == 0) {
            int b = next(13) - 3;
            int c = next(6) == 0 ? next(13) - 3 : Math.min(9, b + next(13));
            bc = next(20) == 0 ? mostly(-5, 260) : (b + 3) + 16 * (c + 3);
        } else if (kind == 1) {
            bc = mostly(-20, 20);
        }
        Checks.due(at + "step(" + kind + ", " + a + ", " + bc + ")", x.step(kind, a, bc), model.step(kind, a, bc));
    }

    private void compareQuestion(String at, SearchMachine x, Model model) {
        int v = mostly(0, 3);
        int k = mostly(-1, model.answers());
        int number = next(2) == 0 ? mostly(-5, 20) : model.value(k, v);
        switch (next(7)) {
            case 0 -> Checks.due(at + "length()", x.length(), model.length());
            case 1 -> Checks.due(at + "answers()", x.answers(), model.answers());
            case 2 -> Checks.due(at + "value(" + k + ", " + v + ")", x.value(k, v), model.value(k, v));
            case 3 -> Checks.due(at + "countWith(" + v + ", " + number + ")",
                x.countWith(v, number), model.countWith(v, number));
            case 4 -> Checks.due(at + "firstWith(" + v + ", " + number + ")",
                x.firstWith(v, number), model.firstWith(v, number));
            case 5 -> {
                int what = mostly(0, 1);
                Checks.due(at + "extreme(" + v + ", " + what + ")", x.extreme(v, what), model.extreme(v, what));
            }
            default -> {
                int n = mostly(-1, model.length() + 1);
                Checks.due(at + "ways(" + n + ")", x.ways(n), model.ways(n));
            }
        }
    }
}
