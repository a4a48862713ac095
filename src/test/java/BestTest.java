/** Promises 10 and 11: best and cost. */
public final class BestTest {
    public static void main(String[] args) {
        noSetIsRight();
        lostNamesComeFirst();
        changesComeSecond();
        staleNamesComeThird();
        theSmallestNumberComesLast();
        theGreatestVersionKnownMayBeAnyPackage();
        installedNamesAreCountedOnce();
        askingChangesNothing();
        Check.end();
    }

    private static void due(String what, UpgradeOptimiser x, int best, int lost, int changed, int stale) {
        Check.due(what + ": best()", x.best(), best);
        Check.due(what + ": cost(0)", x.cost(0), lost);
        Check.due(what + ": cost(1)", x.cost(1), changed);
        Check.due(what + ": cost(2)", x.cost(2), stale);
    }

    private static void noSetIsRight() {
        UpgradeOptimiser x = new UpgradeOptimiser();
        x.addPackage(0, 1, 0);
        x.wish(1, true);
        int none = UpgradeOptimiser.NONE;
        due("no right set", x, none, none, none, none);
    }

    private static void lostNamesComeFirst() {
        UpgradeOptimiser x = new UpgradeOptimiser();
        x.addPackage(0, 1, 0);
        x.addPackage(1, 1, 0);
        x.addPackage(2, 1, 0);
        x.addPackage(3, 1, 0);
        x.addPackage(4, 1, 0);
        x.need(0, false, 1, 1);
        x.need(0, false, 2, 1);
        x.need(1, false, 3, 1);
        x.need(1, false, 4, 1);
        x.install(1);
        due("keeping a name costs four packages", x, 31, 0, 4, 0);
    }

    private static void changesComeSecond() {
        UpgradeOptimiser x = new UpgradeOptimiser();
        x.addPackage(0, 1, 0);
        x.addPackage(1, 1, 0);
        x.addPackage(0, 2, 0);
        x.addPackage(1, 2, 0);
        x.install(3);
        due("nothing changes for newer versions", x, 3, 0, 0, 2);
        x.clash(0, false, 1, 9);
        due("one newer package is fewer changes than two", x, 6, 0, 2, 1);
    }

    private static void staleNamesComeThird() {
        UpgradeOptimiser x = new UpgradeOptimiser();
        x.addPackage(0, 1, 0);
        x.addPackage(0, 5, 0);
        x.addPackage(0, 9, 0);
        x.wish(0, true);
        due("the newest of three", x, 4, 0, 1, 0);
        x.install(1);
        due("an installed one stays", x, 1, 0, 0, 1);
        x.need(0, false, 1, 1);
        due("the newest of the two that are left", x, 4, 0, 2, 0);
    }

    private static void theSmallestNumberComesLast() {
        UpgradeOptimiser x = new UpgradeOptimiser();
        x.addPackage(0, 1, 1);
        x.addPackage(1, 1, 1);
        x.addPackage(2, 1, 1);
        x.addPackage(3, 1, 0);
        x.need(3, true, 0, 0);
        x.wish(3, true);
        due("three ways to meet a need", x, 9, 0, 2, 0);
        x.wish(0, false);
        due("two ways to meet a need", x, 10, 0, 2, 0);
        x.dropWishes();
        x.install(7);
        x.clash(0, true, 0, 0);
        x.clash(1, true, 0, 0);
        due("one of three that shut each other out", x, 1, 2, 2, 0);
        x.need(0, false, 4, 9);
        due("one of the two that are left", x, 2, 2, 2, 0);
    }

    private static void theGreatestVersionKnownMayBeAnyPackage() {
        UpgradeOptimiser x = new UpgradeOptimiser();
        x.addPackage(1, 9, 0);
        x.addPackage(0, 7, 0);
        x.addPackage(0, 2, 0);
        x.install(4);
        due("the newest was made first", x, 4, 0, 0, 1);
        x.install(2);
        due("the newest is installed", x, 2, 0, 0, 0);
        x.addPackage(0, 8, 0);
        due("a newer one becomes known", x, 2, 0, 0, 1);
        x.need(3, false, 4, 1);
        due("the newest known counts even where it can't be had", x, 2, 0, 0, 1);
    }

    private static void installedNamesAreCountedOnce() {
        UpgradeOptimiser x = new UpgradeOptimiser();
        x.addPackage(0, 1, 0);
        x.addPackage(0, 2, 0);
        x.addPackage(0, 3, 0);
        x.addPackage(1, 1, 0);
        x.install(15);
        x.wish(0, false);
        due("one name lost with three packages", x, 8, 1, 3, 0);
        x.wish(1, false);
        due("two names lost", x, 0, 2, 4, 0);
    }

    private static void askingChangesNothing() {
        UpgradeOptimiser x = new UpgradeOptimiser();
        x.addPackage(0, 1, 0);
        x.addPackage(0, 2, 0);
        x.install(3);
        due("first time", x, 2, 0, 1, 0);
        due("second time", x, 2, 0, 1, 0);
        x.right(1);
        x.rightSets();
        due("third time", x, 2, 0, 1, 0);
    }
}
