/** The sentences of "Terms" about the installed set, the cost and the best set, and promises 10 and 11. */
public final class BestEdgesTest {
    private static final int BAD = UpgradeOptimiser.BAD;
    private static final int NONE = UpgradeOptimiser.NONE;

    public static void main(String[] args) {
        theInstalledSetIsAnySet();
        lostNamesFromNoneToAll();
        aNameIsLostOnce();
        aNameInAnotherVersionIsNotLost();
        changedPackagesFromNoneToAll();
        staleNamesFromNoneToAll();
        theGreatestVersionKnown();
        oneLostNameOutweighsTheRest();
        oneChangedPackageOutweighsStaleNames();
        ofSeveralTheSmallestNumber();
        bestFromTheEmptySetToTheFullOne();
        bestIsNoneIfNoSetIsRight();
        costIsNoneIfNoSetIsRight();
        costIsBadForANumberOutside();
        askingChangesNothing();
        Check.end();
    }

    private static void due(String what, UpgradeOptimiser x, int best, int lost, int changed, int stale) {
        Check.due(what + ": best()", x.best(), best);
        Check.due(what + ": cost(0)", x.cost(0), lost);
        Check.due(what + ": cost(1)", x.cost(1), changed);
        Check.due(what + ": cost(2)", x.cost(2), stale);
    }

    // A need that no set meets: no package of this object bears name 4 with version 9.
    private static void shutOut(UpgradeOptimiser x, int p) {
        x.need(p, false, 4, 9);
    }

    // "The INSTALLED set is any set of packages, given by the user."
    private static void theInstalledSetIsAnySet() {
        UpgradeOptimiser x = new UpgradeOptimiser();
        x.addPackage(0, 1, 1);
        x.addPackage(0, 2, 0);
        x.addPackage(1, 1, 0);
        x.need(2, true, 3, 0);
        x.clash(1, true, 0, 0);
        x.wish(1, false);
        int[] best = {0, 1, 2, 2, 0, 1, 2, 2};
        int[] lost = {0, 0, 0, 0, 1, 1, 1, 1};
        int[] changed = {0, 0, 0, 1, 1, 1, 1, 2};
        int[] stale = {0, 1, 0, 0, 0, 1, 0, 0};
        for (int set = 0; set < 8; set++) {
            Check.due("install(" + set + ")", x.install(set), true);
            due("installed " + set, x, best[set], lost[set], changed[set], stale[set]);
        }
    }

    // "the number of names that a package of the installed set has and no package of X has"
    private static void lostNamesFromNoneToAll() {
        UpgradeOptimiser x = new UpgradeOptimiser();
        for (int name = 0; name < 5; name++) {
            x.addPackage(name, 1, 0);
        }
        x.install(31);
        due("no name lost", x, 31, 0, 0, 0);
        for (int p = 0; p < 5; p++) {
            shutOut(x, p);
            due((p + 1) + " names lost", x, 31 & -2 << p, p + 1, p + 1, 0);
        }
    }

    // The same sentence: a name counts once, whatever the number of its packages.
    private static void aNameIsLostOnce() {
        UpgradeOptimiser x = new UpgradeOptimiser();
        for (int version = 1; version <= 9; version++) {
            x.addPackage(4, version, 0);
        }
        x.addPackage(0, 1, 0);
        x.install(1023);
        x.wish(4, false);
        due("nine packages of one name lost", x, 512, 1, 9, 0);
        x.wish(0, false);
        due("both names lost", x, 0, 2, 10, 0);
    }

    // The same sentence: any package of X with the name keeps it.
    private static void aNameInAnotherVersionIsNotLost() {
        UpgradeOptimiser x = new UpgradeOptimiser();
        x.addPackage(0, 9, 0);
        x.addPackage(0, 1, 0);
        x.install(1);
        shutOut(x, 0);
        due("an older version keeps the name", x, 2, 0, 2, 1);
        shutOut(x, 1);
        due("no version is left", x, 0, 1, 1, 0);
    }

    // "the number of packages that are in just one of X and the installed set"
    private static void changedPackagesFromNoneToAll() {
        UpgradeOptimiser x = new UpgradeOptimiser();
        Given.tenPackages(x);
        x.install(31);
        due("none changed", x, 31, 0, 0, 5);
        for (int p = 0; p < 5; p++) {
            shutOut(x, p);
            int replaced = 31 >> 4 - p;
            due((p + 1) + " replaced", x, 31 ^ replaced | replaced << 5, 0, 2 * (p + 1), 4 - p);
        }
    }

    // "the number of names that X has (in some package) without having the package of that name with the greatest
    // version known"
    private static void staleNamesFromNoneToAll() {
        for (int old = 0; old < 32; old++) {
            UpgradeOptimiser x = new UpgradeOptimiser();
            Given.tenPackages(x);
            int set = old | (31 ^ old) << 5;
            x.install(set);
            due("the old ones of " + old, x, set, 0, 0, Integer.bitCount(old));
            x.install(old);
            due("the old ones of " + old + " alone", x, old, 0, 0, Integer.bitCount(old));
        }
    }

    // "the greatest version known"
    private static void theGreatestVersionKnown() {
        UpgradeOptimiser x = new UpgradeOptimiser();
        x.addPackage(1, 1, 0);
        x.install(1);
        due("version 1, the only one known", x, 1, 0, 0, 0);
        x.addPackage(2, 9, 0);
        due("version 9 of another name", x, 1, 0, 0, 0);
        x.addPackage(1, 9, 0);
        due("version 9, made later", x, 1, 0, 0, 1);
        x.addPackage(1, 8, 0);
        x.install(8);
        due("version 8, made after 9", x, 8, 0, 0, 1);
        x.install(4);
        due("version 9 itself", x, 4, 0, 0, 0);
        x.need(2, false, 4, 9);
        due("version 9 can't be had: the smallest number", x, 1, 0, 2, 1);
    }

    // "three numbers, compared in this order, less being better": the first before both others
    private static void oneLostNameOutweighsTheRest() {
        UpgradeOptimiser x = new UpgradeOptimiser();
        Given.tenPackages(x);
        // Name 0 stays only in its old version, and that only with the old ones of all other names.
        shutOut(x, 5);
        x.need(0, false, 1, 1);
        x.need(0, false, 2, 1);
        x.need(1, false, 3, 1);
        x.need(1, false, 4, 1);
        for (int p = 6; p < 10; p++) {
            x.clash(p, false, 0, 1);
        }
        x.install(31 << 5);
        due("no name lost, all ten changed, all five stale", x, 31, 0, 10, 5);
        x.wish(0, false);
        due("what that is better than: one lost, one changed, none stale", x, 15 << 6, 1, 1, 0);
    }

    // The same sentence: the second before the third
    private static void oneChangedPackageOutweighsStaleNames() {
        UpgradeOptimiser x = new UpgradeOptimiser();
        x.addPackage(4, 1, 0);
        for (int p = 1; p < 9; p++) {
            x.addPackage((p - 1) % 4, 1 + p / 5, 0);
        }
        // Of names 0 to 3 both versions are installed, so that four packages must go.
        x.install(510);
        due("the new ones stay", x, 480, 0, 4, 0);
        for (int p = 5; p < 9; p++) {
            x.need(p, false, 4, 1);
        }
        due("four stale before one more changed", x, 30, 0, 4, 4);
        x.wish(4, true);
        due("that one is to be there", x, 481, 0, 5, 0);

        UpgradeOptimiser y = new UpgradeOptimiser();
        Given.tenPackages(y);
        for (int p = 5; p < 9; p++) {
            y.need(p, false, 4, 2);
        }
        y.install(511);
        due("all five stale before two more changed", y, 31, 0, 4, 5);
    }

    // "of several the one with the smallest number"
    private static void ofSeveralTheSmallestNumber() {
        UpgradeOptimiser x = new UpgradeOptimiser();
        for (int p = 0; p < 10; p++) {
            x.addPackage(p / 2, 1 + p % 2, 1);
        }
        // The old ones shut each other out and the new ones can't be had: each old one alone costs the same.
        for (int p = 0; p < 10; p += 2) {
            x.clash(p, true, 0, 0);
            x.need(p + 1, true, 3, 0);
        }
        x.install(0b0101010101);
        for (int p = 0; p < 10; p += 2) {
            due("old ones from " + p + " on", x, 1 << p, 4, 4, 1);
            shutOut(x, p);
        }
        due("none left", x, 0, 5, 5, 0);
    }

    // "The best set": from the least number a set has to the greatest
    private static void bestFromTheEmptySetToTheFullOne() {
        UpgradeOptimiser x = new UpgradeOptimiser();
        due("no packages", x, 0, 0, 0, 0);
        for (int name = 0; name < 5; name++) {
            x.addPackage(name, 9, 0);
            due("a new one is not put in", x, (1 << name) - 1, 0, 0, 0);
            x.install((2 << name) - 1);
            due("all " + (name + 1) + " are kept", x, (2 << name) - 1, 0, 0, 0);
        }
        x.install(0);
        due("all are left out", x, 0, 0, 0, 0);
        for (int p = 0; p < 4; p++) {
            x.wish(p, true);
            x.need(p, false, p + 1, 9);
        }
        due("all are put in", x, 31, 0, 5, 0);
        UpgradeOptimiser y = new UpgradeOptimiser();
        Given.tenPackages(y);
        y.install(31 << 5);
        due("the greatest number that can be right", y, 31 << 5, 0, 0, 0);
    }

    // "NONE if no set is right" (of best)
    private static void bestIsNoneIfNoSetIsRight() {
        UpgradeOptimiser x = new UpgradeOptimiser();
        x.wish(0, true);
        Check.due("no packages and a wish: best()", x.best(), NONE);
        x.wish(0, false);
        Check.due("there and away: best()", x.best(), NONE);
        x.addPackage(0, 1, 0);
        Check.due("there and away, the name known: best()", x.best(), NONE);
        x.dropWishes();
        Check.due("without the wishes: best()", x.best(), 0);
        x.wish(0, true);
        Check.due("the one set that is right: best()", x.best(), 1);
        shutOut(x, 0);
        Check.due("its need is never met: best()", x.best(), NONE);
        x.addPackage(4, 9, 0);
        Check.due("its need is met by a new package: best()", x.best(), 3);
        x.clash(1, false, 0, 9);
        Check.due("that package clashes: best()", x.best(), NONE);
        x.dropWishes();
        x.install(3);
        Check.due("without the wish: best()", x.best(), 2);
    }

    // "NONE if no set is right" (of cost)
    private static void costIsNoneIfNoSetIsRight() {
        Refusal refusal = Refusal.after(Given::noRightSet);
        for (int k = 0; k < 3; k++) {
            int number = k;
            refusal.due("cost(" + k + ") with no right set", x -> x.cost(number), NONE);
        }
        refusal.due("best() with no right set", UpgradeOptimiser::best, NONE);
    }

    // "BAD for k outside 0..2"
    private static void costIsBadForANumberOutside() {
        UpgradeOptimiser x = new UpgradeOptimiser();
        x.addPackage(0, 1, 0);
        x.addPackage(0, 2, 0);
        x.addPackage(1, 1, 0);
        x.addPackage(2, 1, 0);
        x.install(1 | 4 | 8);
        x.wish(1, false);
        x.wish(2, false);
        shutOut(x, 1);
        due("three different numbers", x, 1, 2, 2, 1);
        Refusal some = Refusal.after(Given::some);
        Refusal noRightSet = Refusal.after(Given::noRightSet);
        for (int k : Numbers.outside(0, 2)) {
            some.due("cost(" + k + ")", y -> y.cost(k), BAD);
            noRightSet.due("cost(" + k + ") with no right set", y -> y.cost(k), BAD);
        }
    }

    // "Nothing is promised beyond the answers and state changes described": best and cost describe no change
    private static void askingChangesNothing() {
        Refusal.after(Given::some).due("best()", UpgradeOptimiser::best, 13);
        Refusal.after(Given::some).due("cost(2)", x -> x.cost(2), 1);
        Refusal.after(Given::everything).due("best()", UpgradeOptimiser::best, 992);
        Refusal.after(Given::everything).due("cost(1)", x -> x.cost(1), 5);
    }
}
