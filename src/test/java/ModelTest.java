import java.util.Arrays;
import java.util.Map;
import java.util.Random;
import java.util.TreeMap;

/**
 * Many runs of up to 512 calls, each answer compared with a model that holds the durable state and
 * the unsynced writes over it, instead of two states. The seeds are fixed, so every run is the same.
 */
public final class ModelTest {
    private static final int RUNS = 4000;
    private static final int CALLS = 512;

    /** The durable blocks and, over them, what has been written since the last sync. */
    private static final class Model {
        private final int[] kept = new int[16];
        private final Map<Integer, Integer> written = new TreeMap<>();
        private boolean up = true;
        private boolean group = false;

        int look(int block) {
            return written.getOrDefault(block, kept[block]);
        }

        int settle(boolean keep) {
            int n = written.size();
            if (keep) {
                written.forEach((b, v) -> kept[b] = v);
            }
            written.clear();
            return n;
        }

        int write(int b, int v) {
            if (!up) return -1;
            if (b < 0 || b > 15) return -2;
            if (written.size() == 6 && !written.containsKey(b)) {
                if (group) return -3;
                settle(true);
            }
            written.put(b, v);
            return 0;
        }

        int fill(int first, int count, int v, int step) {
            if (!up) return -1;
            if (count < 1 || count > 16 || first < 0 || (long) first + count > 16) return -2;
            if (group) return -3;
            int value = v;
            for (int b = first; b < first + count; b++) {
                write(b, value);
                value += step;
            }
            return 0;
        }

        int end(boolean keep) {
            if (!up) return -1;
            if (!group) return -2;
            group = false;
            return settle(keep);
        }

        int fall(boolean keep) {
            up = false;
            group = false;
            return settle(keep);
        }

        int answer(int call, int a, int b, int c, int d) {
            switch (call) {
                case 0: return up ? 1 : 0;
                case 1: return up && a >= 0 && a <= 15 ? look(a) : 0;
                case 2: return write(a, b);
                case 3: return fill(a, b, c, d);
                case 4: return !up ? -1 : group ? -2 : settle(true);
                case 5:
                    if (!up) return -1;
                    if (group) return -2;
                    settle(true);
                    group = true;
                    return 0;
                case 6: return end(true);
                case 7: return end(false);
                case 8: return up ? fall(false) : -1;
                case 9:
                    if (!up) return -1;
                    if (a < 0 || a > 3) return -2;
                    fall(a == 3);
                    return 0;
                case 10:
                    if (up) return -1;
                    up = true;
                    return 0;
                case 11: return written.size();
                case 12: return group ? 1 : 0;
                case 13:
                    return up ? (int) written.entrySet().stream().filter(e -> kept[e.getKey()] != e.getValue()).count() : -1;
                case 14:
                    int total = 0;
                    for (int i = 0; i < 16; i++) total += look(i);
                    return up ? total : 0;
                default: return up ? 0 : -1;
            }
        }
    }

    private static int answer(ZonedLogStore x, int call, int a, int b, int c, int d) {
        switch (call) {
            case 0: return x.up();
            case 1: return x.read(a);
            case 2: return x.write(a, b);
            case 3: return x.fill(a, b, c, d);
            case 4: return x.sync();
            case 5: return x.begin();
            case 6: return x.commit();
            case 7: return x.abort();
            case 8: return x.crash();
            case 9: return x.crashIn(a);
            case 10: return x.mount();
            case 11: return x.unsynced();
            case 12: return x.grouped();
            case 13: return x.pending();
            case 14: return x.sum();
            case 15: return x.clean();
            default: return x.check();
        }
    }

    /** Writes, reads and mounts come more often, so that runs spend most of their calls up and full. */
    private static final int[] OFTEN = {2, 2, 2, 2, 2, 2, 2, 2, 1, 1, 1, 3, 10, 10, 13, 14, 11};

    private static int number(Random r, int bound) {
        int[] odd = {-1, bound, Integer.MIN_VALUE, Integer.MAX_VALUE};
        return r.nextInt(12) == 0 ? odd[r.nextInt(odd.length)] : r.nextInt(bound);
    }

    private static int value(Random r) {
        return r.nextInt(3) == 0 ? r.nextInt() : r.nextInt(4);
    }

    private static boolean runAgrees(int seed) {
        Random r = new Random(seed);
        ZonedLogStore x = new ZonedLogStore();
        Model m = new Model();
        for (int n = 1; n <= CALLS; n++) {
            int call = r.nextBoolean() ? OFTEN[r.nextInt(OFTEN.length)] : r.nextInt(17);
            int a = number(r, call == 9 ? 4 : 16);
            int b = call == 3 ? number(r, 17) : value(r);
            int c = value(r);
            int d = value(r);
            int got = answer(x, call, a, b, c, d);
            int want = m.answer(call, a, b, c, d);
            if (got != want) {
                System.out.println("seed " + seed + ", call " + n + ": method " + call
                    + Arrays.toString(new int[] {a, b, c, d}) + " answered " + got + ", due is " + want);
                return false;
            }
        }
        return true;
    }

    public static void main(String[] args) {
        int wrong = 0;
        for (int seed = 0; seed < RUNS && wrong < 10; seed++) {
            if (!runAgrees(seed)) {
                wrong++;
            }
        }
        if (wrong != 0) {
            System.exit(1);
        }
    }
}
