/** Promise 4: orNeed. */
public final class OrNeedTest {
    public static void main(String[] args) {
        wrongInputsAreRefused();
        answersComeInOrder();
        eitherPatternMeetsTheNeed();
        theLatestNeedIsWidened();
        Check.end();
    }

    private static void wrongInputsAreRefused() {
        UpgradeOptimiser x = new UpgradeOptimiser();
        x.addPackage(0, 1, 0);
        x.need(0, false, 1, 1);
        Check.due("orNeed(-1, ..)", x.orNeed(-1, true, 0, 0), UpgradeOptimiser.BAD);
        Check.due("orNeed(1, ..)", x.orNeed(1, true, 0, 0), UpgradeOptimiser.BAD);
        Check.due("orNeed(MAX, ..)", x.orNeed(Integer.MAX_VALUE, true, 0, 0), UpgradeOptimiser.BAD);
        Check.due("name -1", x.orNeed(0, false, -1, 1), UpgradeOptimiser.BAD);
        Check.due("name 5", x.orNeed(0, false, 5, 1), UpgradeOptimiser.BAD);
        Check.due("bound 0", x.orNeed(0, false, 0, 0), UpgradeOptimiser.BAD);
        Check.due("bound 10", x.orNeed(0, false, 0, 10), UpgradeOptimiser.BAD);
        Check.due("feature -1", x.orNeed(0, true, -1, 1), UpgradeOptimiser.BAD);
        Check.due("feature 4", x.orNeed(0, true, 4, 1), UpgradeOptimiser.BAD);
        Check.due("a refused pattern leaves nothing", x.right(1), false);
        Check.due("name 4, bound 9", x.orNeed(0, false, 4, 9), 2);
    }

    private static void answersComeInOrder() {
        UpgradeOptimiser x = new UpgradeOptimiser();
        x.addPackage(0, 1, 0);
        x.addPackage(1, 1, 0);
        x.need(1, true, 0, 0);
        Check.due("no need", x.orNeed(0, true, 0, 0), UpgradeOptimiser.NONE);
        Check.due("no need, bad feature", x.orNeed(0, true, 4, 0), UpgradeOptimiser.BAD);
        Check.due("a refused pattern makes no need", x.right(1), true);
        x.need(0, true, 0, 0);
        Check.due("feature 3, any bound", x.orNeed(0, true, 3, 77), 2);
        Check.due("a third pattern", x.orNeed(0, false, 0, 1), UpgradeOptimiser.FULL);
        Check.due("a third pattern, bad bound", x.orNeed(0, false, 0, 0), UpgradeOptimiser.BAD);
        Check.due("the third pattern plays no part", x.right(1), false);
        Check.due("another need", x.need(0, true, 1, 0), 2);
        Check.due("its second pattern", x.orNeed(0, true, 2, 0), 2);
        Check.due("its third pattern", x.orNeed(0, true, 0, 0), UpgradeOptimiser.FULL);
    }

    private static void eitherPatternMeetsTheNeed() {
        UpgradeOptimiser x = new UpgradeOptimiser();
        x.addPackage(0, 1, 0);
        x.addPackage(1, 2, 0);
        x.addPackage(2, 1, 4);
        x.addPackage(1, 1, 0);
        x.need(0, false, 1, 2);
        x.orNeed(0, true, 2, 0);
        Check.due("neither", x.right(1), false);
        Check.due("the name", x.right(1 | 2), true);
        Check.due("the feature", x.right(1 | 4), true);
        Check.due("both", x.right(1 | 2 | 4), true);
        Check.due("the name below the bound", x.right(1 | 8), false);
    }

    private static void theLatestNeedIsWidened() {
        UpgradeOptimiser x = new UpgradeOptimiser();
        x.addPackage(0, 1, 0);
        x.addPackage(1, 1, 0);
        x.addPackage(2, 1, 0);
        x.addPackage(3, 1, 0);
        x.need(0, false, 1, 1);
        x.need(0, false, 2, 1);
        x.orNeed(0, false, 3, 1);
        Check.due("names 1 and 3", x.right(1 | 2 | 8), true);
        Check.due("names 1 and 2", x.right(1 | 2 | 4), true);
        Check.due("names 2 and 3", x.right(1 | 4 | 8), false);
        Check.due("name 1", x.right(1 | 2), false);
    }
}
