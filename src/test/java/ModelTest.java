/** All promises together: long runs of mixed calls, each answer held against the one of Model. */
public final class ModelTest {
    private static final int RUNS = 60;
    // As many as the document lets an object be used for.
    private static final int CALLS = 512;
    private static final int[] EXTREMES = {Integer.MIN_VALUE, -1, 1 << 10, Integer.MAX_VALUE};

    private static long state = 20261115L;

    public static void main(String[] args) {
        for (int run = 0; run < RUNS; run++) {
            play(run);
        }
        Check.end();
    }

    // A fixed sequence of numbers of our own, so that every run of the test makes the same calls.
    private static int pick(int low, int high) {
        state = state * 6364136223846793005L + 1442695040888963407L;
        return low + (int) ((state >>> 33) % (high - low + 1));
    }

    // Mostly a number in the range, at times one just outside it or far away.
    private static int around(int low, int high) {
        int kind = pick(0, 39);
        if (kind == 0) {
            return low - 1;
        }
        if (kind == 1) {
            return high + 1;
        }
        return kind == 2 ? EXTREMES[pick(0, EXTREMES.length - 1)] : pick(low, high);
    }

    private static void play(int run) {
        UpgradeOptimiser x = new UpgradeOptimiser();
        Model m = new Model();
        int made = 0;
        // Runs differ in how many packages they reach, so that small sets are asked about as well.
        int limit = 2 + run % 10;
        for (int call = 0; call < CALLS; call++) {
            String where = "run " + run + ", call " + call + ": ";
            if (made <= limit && pick(0, 5) == 0) {
                int name = around(0, 4);
                int version = around(1, 9);
                int features = around(0, 15);
                int due = m.addPackage(name, version, features);
                made = due >= 0 ? due + 1 : made;
                String text = where + "addPackage(" + name + ", " + version + ", " + features + ")";
                Check.due(text, x.addPackage(name, version, features), due);
            } else if (pick(0, 2) == 0) {
                shape(where, x, m, made);
            } else {
                ask(where, x, m, made);
            }
        }
    }

    private static void shape(String where, UpgradeOptimiser x, Model m, int made) {
        int p = around(0, made == 0 ? 0 : made - 1);
        boolean feature = pick(0, 1) == 0;
        int value = around(0, feature ? 3 : 4);
        int bound = around(1, 9);
        String text = "(" + p + ", " + feature + ", " + value + ", " + bound + ")";
        // Needs and clashes come seldom at first, so that not every set is shut out early.
        switch (pick(0, 8)) {
            case 0 -> Check.due(where + "need" + text, x.need(p, feature, value, bound),
                m.need(p, feature, value, bound));
            case 1, 2 -> Check.due(where + "orNeed" + text, x.orNeed(p, feature, value, bound),
                m.orNeed(p, feature, value, bound));
            case 3 -> Check.due(where + "clash" + text, x.clash(p, feature, value, bound),
                m.clash(p, feature, value, bound));
            case 4 -> {
                int name = around(0, 4);
                Check.due(where + "wish(" + name + ", " + feature + ")", x.wish(name, feature), m.wish(name, feature));
            }
            case 5, 6 -> Check.due(where + "dropWishes()", x.dropWishes(), m.dropWishes());
            default -> {
                int set = around(0, (1 << made) - 1);
                Check.due(where + "install(" + set + ")", x.install(set), m.install(set));
            }
        }
    }

    private static void ask(String where, UpgradeOptimiser x, Model m, int made) {
        switch (pick(0, 3)) {
            case 0 -> {
                int set = around(0, (1 << made) - 1);
                Check.due(where + "right(" + set + ")", x.right(set), m.right(set));
            }
            case 1 -> Check.due(where + "best()", x.best(), m.best());
            case 2 -> {
                int k = around(0, 2);
                Check.due(where + "cost(" + k + ")", x.cost(k), m.cost(k));
            }
            default -> Check.due(where + "rightSets()", x.rightSets(), m.rightSets());
        }
    }
}
