/** Promise 13: order and limits. */
public final class OrderAndLimitsTest {
    public static void main(String[] args) {
        costTestsItsNumberFirst();
        clashTestsItsPatternFirst();
        wishTestsItsNameFirst();
        Check.end();
    }

    private static void costTestsItsNumberFirst() {
        UpgradeOptimiser x = new UpgradeOptimiser();
        int[] outside = {Integer.MIN_VALUE, -1, 3, Integer.MAX_VALUE};
        for (int k : outside) {
            Check.due("cost(" + k + ")", x.cost(k), UpgradeOptimiser.BAD);
        }
        x.wish(0, true);
        for (int k : outside) {
            Check.due("cost(" + k + ") with no right set", x.cost(k), UpgradeOptimiser.BAD);
        }
        for (int k = 0; k < 3; k++) {
            Check.due("cost(" + k + ") with no right set", x.cost(k), UpgradeOptimiser.NONE);
        }
    }

    private static void clashTestsItsPatternFirst() {
        UpgradeOptimiser x = new UpgradeOptimiser();
        x.addPackage(0, 1, 0);
        x.addPackage(1, 1, 1);
        x.clash(0, false, 4, 1);
        x.clash(0, false, 4, 1);
        Check.due("a third clash", x.clash(0, false, 1, 1), UpgradeOptimiser.FULL);
        Check.due("a third clash, any bound", x.clash(0, true, 0, -9), UpgradeOptimiser.FULL);
        Check.due("a third clash, bad name", x.clash(0, false, 5, 1), UpgradeOptimiser.BAD);
        Check.due("a third clash, bad bound", x.clash(0, false, 1, 10), UpgradeOptimiser.BAD);
        Check.due("a third clash, bad feature", x.clash(0, true, 4, 1), UpgradeOptimiser.BAD);
        Check.due("the refused clashes play no part", x.right(3), true);
        Check.due("another package's first clash", x.clash(1, false, 4, 1), 1);
    }

    private static void wishTestsItsNameFirst() {
        UpgradeOptimiser x = new UpgradeOptimiser();
        for (int w = 1; w <= 4; w++) {
            Check.due("wish " + w, x.wish(0, false), w);
        }
        Check.due("a fifth wish, name 5", x.wish(5, false), UpgradeOptimiser.BAD);
        Check.due("a fifth wish, name -1", x.wish(-1, false), UpgradeOptimiser.BAD);
        Check.due("a fifth wish", x.wish(4, false), UpgradeOptimiser.FULL);
    }
}
