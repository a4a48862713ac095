/** Promises 6, 9 and 12: each sentence with a boundary case. */
public final class SetEdgesTest {
    public static void main(String[] args) {
        installOutsideIsRefused();
        installInsideIsTaken();
        theInstalledSetIsReplaced();
        theInstalledSetStaysWhenPackagesAreAdded();
        rightOutsideIsFalse();
        rightInsideIsAnswered();
        rightSetsFromNoneToMany();
        askingChangesNothing();
        Check.end();
    }

    // "set outside 0 .. 2^(number of packages) - 1: refused, answers false."
    private static void installOutsideIsRefused() {
        Refusal nothing = Refusal.after(Given::nothing);
        for (int set : Numbers.outside(0, 0)) {
            nothing.dueFalse("install(" + set + ") with no packages", x -> x.install(set));
        }
        Refusal some = Refusal.after(Given::some);
        for (int set : Numbers.outside(0, 15)) {
            some.dueFalse("install(" + set + ") with four packages", x -> x.install(set));
        }
        Refusal everything = Refusal.after(Given::everything);
        for (int set : Numbers.outside(0, 1023)) {
            everything.dueFalse("install(" + set + ") with ten packages", x -> x.install(set));
        }
    }

    // "Makes the installed set this one.", "Else true."
    private static void installInsideIsTaken() {
        UpgradeOptimiser x = new UpgradeOptimiser();
        for (int packages = 0; packages <= 10; packages++) {
            int last = (1 << packages) - 1;
            String text = " with " + packages + " packages";
            Check.due("install(0)" + text, x.install(0), true);
            Check.due("best()" + text + ", none installed", x.best(), 0);
            Check.due("install(" + last + ")" + text, x.install(last), true);
            int newest = packages <= 5 ? last : last & ~((1 << packages - 5) - 1);
            Check.due("best()" + text + ", all installed", x.best(), newest);
            Check.due("cost(1)" + text + ", all installed", x.cost(1), packages <= 5 ? 0 : packages - 5);
            Check.due("install(" + (last + 1) + ")" + text, x.install(last + 1), false);
            Check.due("best() after it" + text, x.best(), newest);
            x.addPackage(packages % 5, 1 + packages / 5, 0);
        }
    }

    // "Makes the installed set this one.": the one before is gone
    private static void theInstalledSetIsReplaced() {
        UpgradeOptimiser x = new UpgradeOptimiser();
        for (int name = 0; name < 5; name++) {
            x.addPackage(name, 1, 0);
        }
        for (int set = 31; set >= 0; set--) {
            Check.due("install(" + set + ")", x.install(set), true);
            Check.due("best() with " + set + " installed", x.best(), set);
            Check.due("cost(0) with " + set + " installed", x.cost(0), 0);
            Check.due("cost(1) with " + set + " installed", x.cost(1), 0);
        }
    }

    // The same sentence: it stays this one until the next install
    private static void theInstalledSetStaysWhenPackagesAreAdded() {
        UpgradeOptimiser x = new UpgradeOptimiser();
        x.addPackage(0, 1, 0);
        x.install(1);
        for (int p = 1; p < 10; p++) {
            x.addPackage(p % 5, 1 + p / 5, 0);
            Check.due("best() with " + (p + 1) + " packages", x.best(), 1);
            Check.due("cost(1) with " + (p + 1) + " packages", x.cost(1), 0);
        }
        Check.due("right(1 << 9)", x.right(1 << 9), true);
    }

    // "false for set outside 0 .. 2^(number of packages) - 1"
    private static void rightOutsideIsFalse() {
        Refusal nothing = Refusal.after(Given::nothing);
        for (int set : Numbers.outside(0, 0)) {
            nothing.dueFalse("right(" + set + ") with no packages", x -> x.right(set));
        }
        Refusal some = Refusal.after(Given::some);
        for (int set : Numbers.outside(0, 15)) {
            some.dueFalse("right(" + set + ") with four packages", x -> x.right(set));
        }
        UpgradeOptimiser x = new UpgradeOptimiser();
        Given.tenPackages(x);
        for (int set : Numbers.outside(0, 1023)) {
            Check.due("right(" + set + ") with ten packages", x.right(set), false);
        }
        for (int bit = 10; bit < 32; bit++) {
            Check.due("right(31 + (1 << " + bit + "))", x.right(31 | 1 << bit), false);
        }
    }

    // "Whether a set is right": the first and the last set of the range among them
    private static void rightInsideIsAnswered() {
        UpgradeOptimiser x = new UpgradeOptimiser();
        for (int packages = 0; packages <= 10; packages++) {
            int sets = 1 << packages;
            String text = " with " + packages + " packages";
            Check.due("right(0)" + text, x.right(0), true);
            Check.due("right(" + (sets - 1) + ")" + text, x.right(sets - 1), packages <= 5);
            Check.due("right(" + sets / 2 + ")" + text, x.right(sets / 2), true);
            Check.due("right(" + sets + ")" + text, x.right(sets), false);
            x.addPackage(packages % 5, 1 + packages / 5, 0);
        }
    }

    // "The number of right sets.": none, the empty one alone, and as many as there can be
    private static void rightSetsFromNoneToMany() {
        UpgradeOptimiser x = new UpgradeOptimiser();
        Check.due("the empty set: rightSets()", x.rightSets(), 1);
        x.wish(0, true);
        Check.due("no set: rightSets()", x.rightSets(), 0);
        x.dropWishes();
        for (int p = 0; p < 10; p++) {
            x.addPackage(p % 5, 1 + p / 5, 0);
        }
        Check.due("two packages of each name: rightSets()", x.rightSets(), 243);
        for (int p = 0; p < 9; p++) {
            x.need(p, true, 0, 0);
        }
        Check.due("the empty set and the last package: rightSets()", x.rightSets(), 2);
        x.need(9, true, 0, 0);
        Check.due("the empty set of ten packages: rightSets()", x.rightSets(), 1);
        x.wish(4, true);
        Check.due("no set of ten packages: rightSets()", x.rightSets(), 0);
    }

    // Neither right nor rightSets is said to change anything
    private static void askingChangesNothing() {
        Refusal.after(Given::some).due("right(13)", x -> x.right(13) ? 1 : 0, 1);
        Refusal.after(Given::some).dueFalse("right(3)", x -> x.right(3));
        Refusal.after(Given::some).due("rightSets()", UpgradeOptimiser::rightSets, 6);
        Refusal.after(Given::everything).due("right(992)", x -> x.right(992) ? 1 : 0, 1);
        Refusal.after(Given::everything).due("rightSets()", UpgradeOptimiser::rightSets, 8);
        Refusal.after(Given::noRightSet).due("rightSets() with no right set", UpgradeOptimiser::rightSets, 0);
    }
}
