/** Promise 3: need. */
public final class NeedTest {
    public static void main(String[] args) {
        wrongInputsAreRefused();
        badComesBeforeFull();
        aNameIsNeededFromItsBoundUp();
        aFeatureIsNeeded();
        bothNeedsCount();
        aPackageMayMeetItsOwnNeed();
        aLaterPackageMayMeetANeed();
        Check.end();
    }

    private static void wrongInputsAreRefused() {
        UpgradeOptimiser x = new UpgradeOptimiser();
        x.addPackage(0, 1, 0);
        Check.due("need(-1, ..)", x.need(-1, true, 0, 0), UpgradeOptimiser.BAD);
        Check.due("need(1, ..)", x.need(1, true, 0, 0), UpgradeOptimiser.BAD);
        Check.due("need(10, ..)", x.need(10, true, 0, 0), UpgradeOptimiser.BAD);
        Check.due("need(MAX, ..)", x.need(Integer.MAX_VALUE, true, 0, 0), UpgradeOptimiser.BAD);
        Check.due("need(MIN, ..)", x.need(Integer.MIN_VALUE, true, 0, 0), UpgradeOptimiser.BAD);
        Check.due("name -1", x.need(0, false, -1, 1), UpgradeOptimiser.BAD);
        Check.due("name 5", x.need(0, false, 5, 1), UpgradeOptimiser.BAD);
        Check.due("bound 0", x.need(0, false, 0, 0), UpgradeOptimiser.BAD);
        Check.due("bound 10", x.need(0, false, 0, 10), UpgradeOptimiser.BAD);
        Check.due("feature -1", x.need(0, true, -1, 1), UpgradeOptimiser.BAD);
        Check.due("feature 4", x.need(0, true, 4, 1), UpgradeOptimiser.BAD);
        Check.due("a refused need leaves nothing", x.right(1), true);
        Check.due("name 4, bound 9", x.need(0, false, 4, 9), 1);
        Check.due("feature 3, any bound", x.need(0, true, 3, Integer.MIN_VALUE), 2);
    }

    private static void badComesBeforeFull() {
        UpgradeOptimiser x = new UpgradeOptimiser();
        x.addPackage(0, 1, 0);
        Check.due("first need", x.need(0, false, 0, 1), 1);
        Check.due("second need", x.need(0, false, 0, 1), 2);
        Check.due("third need", x.need(0, false, 1, 1), UpgradeOptimiser.FULL);
        Check.due("third need, bad name", x.need(0, false, 5, 1), UpgradeOptimiser.BAD);
        Check.due("third need, bad bound", x.need(0, false, 1, 0), UpgradeOptimiser.BAD);
        Check.due("third need, bad feature", x.need(0, true, 4, 1), UpgradeOptimiser.BAD);
        Check.due("the refused needs play no part", x.right(1), true);
    }

    private static void aNameIsNeededFromItsBoundUp() {
        UpgradeOptimiser x = new UpgradeOptimiser();
        x.addPackage(0, 1, 0);
        x.addPackage(1, 4, 0);
        x.addPackage(1, 5, 0);
        x.addPackage(1, 6, 0);
        x.addPackage(2, 5, 0);
        x.need(0, false, 1, 5);
        Check.due("alone", x.right(1), false);
        Check.due("with version 4", x.right(1 | 2), false);
        Check.due("with version 5", x.right(1 | 4), true);
        Check.due("with version 6", x.right(1 | 8), true);
        Check.due("with another name", x.right(1 | 16), false);
        Check.due("without the package that needs", x.right(2), true);
    }

    private static void aFeatureIsNeeded() {
        UpgradeOptimiser x = new UpgradeOptimiser();
        x.addPackage(0, 1, 0);
        x.addPackage(1, 1, 7);
        x.addPackage(2, 1, 8);
        x.need(0, true, 3, 9);
        Check.due("alone", x.right(1), false);
        Check.due("with features 0 to 2", x.right(1 | 2), false);
        Check.due("with feature 3", x.right(1 | 4), true);
    }

    private static void bothNeedsCount() {
        UpgradeOptimiser x = new UpgradeOptimiser();
        x.addPackage(0, 1, 0);
        x.addPackage(1, 1, 0);
        x.addPackage(2, 1, 1);
        x.need(0, false, 1, 1);
        x.need(0, true, 0, 0);
        Check.due("the first need alone", x.right(1 | 2), false);
        Check.due("the second need alone", x.right(1 | 4), false);
        Check.due("both", x.right(1 | 2 | 4), true);
    }

    private static void aPackageMayMeetItsOwnNeed() {
        UpgradeOptimiser x = new UpgradeOptimiser();
        x.addPackage(0, 3, 2);
        x.need(0, false, 0, 3);
        x.need(0, true, 1, 0);
        Check.due("own name and own feature", x.right(1), true);
        x.addPackage(1, 3, 0);
        x.need(1, false, 1, 4);
        Check.due("own name, greater bound", x.right(2), false);
    }

    private static void aLaterPackageMayMeetANeed() {
        UpgradeOptimiser x = new UpgradeOptimiser();
        x.addPackage(0, 1, 0);
        x.need(0, false, 3, 2);
        Check.due("rightSets() while nobody meets the need", x.rightSets(), 1);
        x.addPackage(3, 2, 0);
        Check.due("with the later package", x.right(3), true);
    }
}
