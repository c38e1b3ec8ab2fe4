import java.util.ArrayList;
import java.util.List;

/**
 * The document told a second time, by going down each run in turn to its end, where the class
 * carries all ways along step by step: a fault would have to be made twice to go unseen.
 */
final class Model {
    private final List<int[]> steps = new ArrayList<>();
    private final List<int[]> found = new ArrayList<>();
    private boolean[] passed;

    int step(int kind, int a, int bc) {
        int[] read = read(kind, a, bc);
        if (read == null || isChoosing(kind) && choosing() == 3) {
            return -1;
        }
        if (steps.size() == 14) {
            return -2;
        }
        steps.add(read);
        return steps.size() - 1;
    }

    int drop() {
        if (steps.isEmpty()) {
            return -1;
        }
        steps.remove(steps.size() - 1);
        return steps.size();
    }

    int length() {
        return steps.size();
    }

    int answers() {
        return search(steps.size()).size();
    }

    int value(int k, int v) {
        List<int[]> all = search(steps.size());
        return k >= 0 && k < all.size() && v >= 0 && v <= 3 ? all.get(k)[v] : -1000000000;
    }

    int countWith(int v, int x) {
        if (v < 0 || v > 3) {
            return 0;
        }
        return (int) search(steps.size()).stream().filter(answer -> answer[v] == x).count();
    }

    int firstWith(int v, int x) {
        List<int[]> all = search(steps.size());
        for (int k = 0; k < all.size(); k++) {
            if (v >= 0 && v <= 3 && all.get(k)[v] == x) {
                return k;
            }
        }
        return -1;
    }

    int extreme(int v, int what) {
        if (v < 0 || v > 3 || what < 0 || what > 1) {
            return -1000000000;
        }
        int[] sorted = search(steps.size()).stream().mapToInt(answer -> answer[v]).sorted().toArray();
        return sorted.length == 0 ? -1000000000 : sorted[what == 0 ? 0 : sorted.length - 1];
    }

    int ways(int n) {
        return n < 0 || n > steps.size() ? -1 : search(n).size();
    }

    private static boolean isChoosing(int kind) {
        return kind == 0 || kind == 4 || kind == 9;
    }

    private int choosing() {
        return (int) steps.stream().filter(step -> isChoosing(step[0])).count();
    }

    /** The step as kind, a, b, c, or null when it is BAD. */
    private static int[] read(int kind, int a, int bc) {
        if (kind == 8) {
            return new int[] {8, 0, 0, 0};
        }
        if (kind < 0 || kind > 9 || a < 0 || a > 3) {
            return null;
        }
        if (kind == 0) {
            for (int b = -3; b <= 9; b++) {
                for (int c = -3; c <= 9; c++) {
                    if ((b + 3) + 16 * (c + 3) == bc) {
                        return new int[] {0, a, b, c};
                    }
                }
            }
            return null;
        }
        boolean right = kind == 1 ? bc >= -20 && bc <= 20 : bc >= 0 && bc <= 3;
        return right ? new int[] {kind, a, bc, 0} : null;
    }

    private List<int[]> search(int n) {
        found.clear();
        passed = new boolean[14];
        descend(0, n, new int[4]);
        return found;
    }

    private void descend(int place, int n, int[] at) {
        if (place == n) {
            found.add(at);
            return;
        }
        int[] step = steps.get(place);
        int a = step[1];
        int b = step[2];
        switch (step[0]) {
            case 0 -> {
                for (int number = b; number <= step[3]; number++) {
                    descend(place + 1, n, with(at, a, number));
                }
            }
            case 1 -> descend(place + 1, n, with(at, a, b));
            case 2 -> descend(place + 1, n, with(at, a, at[a] + at[b]));
            case 3 -> descend(place + 1, n, with(at, a, at[a] * at[b]));
            case 4 -> {
                descend(place + 1, n, with(at, a, at[b]));
                descend(place + 1, n, at);
            }
            case 5 -> descendIf(at[a] < at[b], place, n, at);
            case 6 -> descendIf(at[a] == at[b], place, n, at);
            case 7 -> descendIf(at[a] != at[b], place, n, at);
            case 8 -> {
                boolean first = !passed[place];
                passed[place] = true;
                descendIf(first, place, n, at);
            }
            default -> {
                descend(place + 1, n, with(at, a, at[a] + 1));
                descend(place + 1, n, with(at, b, at[b] + 1));
            }
        }
    }

    private void descendIf(boolean goesOn, int place, int n, int[] at) {
        if (goesOn) {
            descend(place + 1, n, at);
        }
    }

    private static int[] with(int[] at, int variable, int number) {
        int[] next = at.clone();
        next[variable] = number;
        return next;
    }
}
