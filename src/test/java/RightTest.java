/** Promises 9 and 12: right and rightSets. */
public final class RightTest {
    public static void main(String[] args) {
        setsOutsideTheRange();
        noNameTwice();
        everyRuleIsAsked();
        rightSetsCounts();
        Check.end();
    }

    private static void setsOutsideTheRange() {
        UpgradeOptimiser x = new UpgradeOptimiser();
        x.addPackage(0, 1, 0);
        x.addPackage(1, 1, 0);
        Check.due("right(-1)", x.right(-1), false);
        Check.due("right(4)", x.right(4), false);
        Check.due("right(MIN)", x.right(Integer.MIN_VALUE), false);
        Check.due("right(MIN + 1)", x.right(Integer.MIN_VALUE + 1), false);
        Check.due("right(MAX)", x.right(Integer.MAX_VALUE), false);
        Check.due("right(0)", x.right(0), true);
        Check.due("right(3)", x.right(3), true);
    }

    private static void noNameTwice() {
        UpgradeOptimiser x = new UpgradeOptimiser();
        x.addPackage(4, 1, 0);
        x.addPackage(1, 1, 0);
        x.addPackage(4, 2, 0);
        Check.due("name 4 twice", x.right(1 | 4), false);
        Check.due("name 4 twice and name 1", x.right(1 | 2 | 4), false);
        Check.due("names 1 and 4", x.right(2 | 4), true);
    }

    private static void everyRuleIsAsked() {
        UpgradeOptimiser x = new UpgradeOptimiser();
        x.addPackage(0, 1, 0);
        x.addPackage(1, 1, 1);
        x.addPackage(2, 1, 0);
        x.addPackage(3, 1, 0);
        x.need(0, true, 0, 0);
        x.clash(3, false, 2, 9);
        x.wish(0, true);
        Check.due("all kept", x.right(1 | 2 | 4), true);
        Check.due("need not met", x.right(1 | 4), false);
        Check.due("clash touched", x.right(1 | 2 | 4 | 8), false);
        Check.due("wish not kept", x.right(2 | 4), false);
    }

    private static void rightSetsCounts() {
        UpgradeOptimiser x = new UpgradeOptimiser();
        int due = 1;
        for (int p = 0; p < 10; p++) {
            x.addPackage(p / 2, 1 + p % 2, 0);
            // A name with one package known is there or not; with two it is there in either version or not.
            due = p % 2 == 0 ? due * 2 : due / 2 * 3;
            Check.due("rightSets() with " + (p + 1) + " packages", x.rightSets(), due);
        }
        x.wish(0, true);
        Check.due("with a name that is to be there", x.rightSets(), 162);
        x.wish(1, false);
        Check.due("with another that is to be away", x.rightSets(), 54);
        x.wish(0, false);
        Check.due("with no right set", x.rightSets(), 0);
    }
}
