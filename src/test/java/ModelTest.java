import java.util.Random;

/** Long runs of calls, ordinary and wrong, on the class and on the model: all answers are alike. */
public final class ModelTest {
    private static final int[] ODD = {-1, -2, Integer.MIN_VALUE, Integer.MAX_VALUE, 8, 9, 13, 20, 21, 23, 24, 25, 71, 72, 255, 256, 9999, 10000};

    private final Checks checks = new Checks();
    private final Random random;
    private final int run;
    /** How far apart letters lie: few letters make words that begin one another, many make bits of all kinds. */
    private final int kinds;
    private final BitBranches x = new BitBranches();
    private final Model m = new Model();
    private int made;

    private ModelTest(int run) {
        this.run = run;
        random = new Random(run);
        kinds = new int[] {2, 3, 26, 256}[run % 4];
    }

    public static void main(String[] args) {
        Checks all = new Checks();
        for (int run = 0; run < 1200 && all.wrong() < 5; run++) {
            ModelTest test = new ModelTest(run);
            test.calls();
            all.due("run " + run + ", wrong answers", test.checks.wrong(), 0);
        }
        all.end();
    }

    private void calls() {
        if (run % 3 == 0) {
            fill();
        }
        while (made < 512 && checks.wrong() == 0) {
            int call = pickCall();
            int a = random.nextInt(12) == 0 ? ODD[random.nextInt(ODD.length)] : pick(call, m.keysNow().size());
            int b = random.nextInt(12) == 0 ? ODD[random.nextInt(ODD.length)] : random.nextInt(14);
            if (call == 19 && random.nextInt(8) != 0) {
                b = random.nextInt(25);
            }
            both(call, a, b);
        }
    }

    /** Random calls seldom come near 24 keys by themselves, so a third of the runs begins there. */
    private void fill() {
        while (made < 300 && m.keysNow().size() < 24) {
            both(1, 0, 0);
            for (int letters = random.nextInt(9); letters > 0; letters--) {
                both(0, pick(0, 0), 0);
            }
            both(6, pick(6, 0), 0);
        }
    }

    private void both(int call, int a, int b) {
        checks.due("run " + run + ", call " + made + ": " + Calls.NAMES[call] + "(" + a + ", " + b + ")",
            Calls.of(x, call, a, b), Calls.of(m, call, a, b));
        made++;
    }

    private int pickCall() {
        int weighed = random.nextInt(100);
        if (weighed < 18) {
            return 0;
        }
        if (weighed < 30) {
            return 6;
        }
        if (weighed < 35) {
            return 1;
        }
        // cut() of much, and goBack() to little, would leave the tree bare if they came as often as the rest
        int call = random.nextInt(24);
        boolean seldom = call == 8 || call >= 22;
        return seldom && random.nextInt(4) != 0 ? 3 : call;
    }

    private int pick(int call, int keys) {
        return switch (call) {
            case 0 -> kinds == 256 ? random.nextInt(256) : 97 + random.nextInt(kinds);
            case 2, 4, 5, 18, 19 -> random.nextInt(keys + 1);
            case 3 -> random.nextInt(11);
            case 6, 9 -> random.nextInt(4) == 0 ? 9990 + random.nextInt(10) : random.nextInt(40);
            case 10, 11 -> 1 + random.nextInt(random.nextBoolean() ? 4 : 20);
            case 12 -> random.nextInt(4);
            case 14, 17, 22, 23 -> random.nextInt(2);
            case 20 -> random.nextInt(72);
            default -> random.nextInt() & 0x7fffffff;
        };
    }
}
