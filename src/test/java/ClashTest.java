/** Promise 5: clash. */
public final class ClashTest {
    public static void main(String[] args) {
        wrongInputsAreRefused();
        aNameClashesUpToItsBound();
        aFeatureClashes();
        aPackageNeverTouchesItsOwnClash();
        bothClashesCount();
        Check.end();
    }

    private static void wrongInputsAreRefused() {
        UpgradeOptimiser x = new UpgradeOptimiser();
        x.addPackage(0, 1, 0);
        x.addPackage(1, 1, 15);
        Check.due("clash(-1, ..)", x.clash(-1, true, 0, 0), UpgradeOptimiser.BAD);
        Check.due("clash(2, ..)", x.clash(2, true, 0, 0), UpgradeOptimiser.BAD);
        Check.due("clash(MAX, ..)", x.clash(Integer.MAX_VALUE, true, 0, 0), UpgradeOptimiser.BAD);
        Check.due("clash(MIN, ..)", x.clash(Integer.MIN_VALUE, true, 0, 0), UpgradeOptimiser.BAD);
        Check.due("name -1", x.clash(0, false, -1, 1), UpgradeOptimiser.BAD);
        Check.due("name 5", x.clash(0, false, 5, 1), UpgradeOptimiser.BAD);
        Check.due("bound 0", x.clash(0, false, 1, 0), UpgradeOptimiser.BAD);
        Check.due("bound 10", x.clash(0, false, 1, 10), UpgradeOptimiser.BAD);
        Check.due("feature -1", x.clash(0, true, -1, 1), UpgradeOptimiser.BAD);
        Check.due("feature 4", x.clash(0, true, 4, 1), UpgradeOptimiser.BAD);
        Check.due("a refused clash leaves nothing", x.right(3), true);
        Check.due("name 4, bound 9", x.clash(0, false, 4, 9), 1);
        Check.due("feature 3, any bound", x.clash(0, true, 3, Integer.MAX_VALUE), 2);
    }

    private static void aNameClashesUpToItsBound() {
        UpgradeOptimiser x = new UpgradeOptimiser();
        x.addPackage(0, 1, 0);
        x.addPackage(1, 4, 0);
        x.addPackage(1, 5, 0);
        x.addPackage(1, 6, 0);
        x.addPackage(2, 5, 0);
        x.clash(0, false, 1, 5);
        Check.due("alone", x.right(1), true);
        Check.due("with version 4", x.right(1 | 2), false);
        Check.due("with version 5", x.right(1 | 4), false);
        Check.due("with version 6", x.right(1 | 8), true);
        Check.due("with another name", x.right(1 | 16), true);
        Check.due("without the package that clashes", x.right(2), true);
    }

    private static void aFeatureClashes() {
        UpgradeOptimiser x = new UpgradeOptimiser();
        x.addPackage(0, 1, 0);
        x.addPackage(1, 1, 7);
        x.addPackage(2, 1, 8);
        x.clash(0, true, 3, 0);
        Check.due("with features 0 to 2", x.right(1 | 2), true);
        Check.due("with feature 3", x.right(1 | 4), false);
    }

    private static void aPackageNeverTouchesItsOwnClash() {
        UpgradeOptimiser x = new UpgradeOptimiser();
        x.addPackage(0, 1, 1);
        x.addPackage(1, 1, 1);
        x.clash(0, true, 0, 0);
        x.clash(0, false, 0, 9);
        Check.due("own feature and own name", x.right(1), true);
        Check.due("another with the feature", x.right(3), false);
    }

    private static void bothClashesCount() {
        UpgradeOptimiser x = new UpgradeOptimiser();
        x.addPackage(0, 1, 0);
        x.addPackage(1, 1, 0);
        x.addPackage(2, 1, 1);
        Check.due("first clash", x.clash(0, false, 1, 1), 1);
        Check.due("second clash", x.clash(0, true, 0, 0), 2);
        Check.due("the first is touched", x.right(1 | 2), false);
        Check.due("the second is touched", x.right(1 | 4), false);
        Check.due("neither is touched", x.right(1), true);
        Check.due("without the package that clashes", x.right(2 | 4), true);
    }
}
