/** Promise 2: each sentence with a boundary case. */
public final class AddPackageEdgesTest {
    private static final int BAD = UpgradeOptimiser.BAD;
    private static final int FULL = UpgradeOptimiser.FULL;

    public static void main(String[] args) {
        theNewPackageHasNoNeedsAndNoClashes();
        itOffersTheFeaturesOfASet();
        tenPackagesAreThere();
        nameOutside();
        versionOutside();
        featuresOutside();
        sameNameAndVersion();
        aRefusedPackageIsNotKnown();
        answersItsNumber();
        itIsNotInstalled();
        Check.end();
    }

    // "Makes a package without needs and clashes"
    private static void theNewPackageHasNoNeedsAndNoClashes() {
        UpgradeOptimiser x = new UpgradeOptimiser();
        for (int p = 0; p < 10; p++) {
            x.addPackage(p % 5, 1 + p / 5, 15);
            Check.due("package " + p + " alone", x.right(1 << p), true);
            Check.due("package " + p + ": no need to widen", x.orNeed(p, true, 0, 0), UpgradeOptimiser.NONE);
            Check.due("package " + p + ": its first need", x.need(p, true, 0, 0), 1);
            Check.due("package " + p + ": its first clash", x.clash(p, false, p % 5, 1), 1);
        }
        Check.due("all five names", x.right(31), true);
    }

    // "offers the features of a set (0..15; bit f speaks of feature f)"
    private static void itOffersTheFeaturesOfASet() {
        for (int features = 0; features < 16; features++) {
            UpgradeOptimiser x = new UpgradeOptimiser();
            Check.due("addPackage(0, 1, " + features + ")", x.addPackage(0, 1, features), 0);
            for (int feature = 0; feature < 4; feature++) {
                x.addPackage(1 + feature, 1, 0);
                x.need(1 + feature, true, feature, 0);
                boolean offers = (features >> feature) % 2 == 1;
                Check.due("feature " + feature + " of " + features, x.right(1 | 2 << feature), offers);
            }
        }
    }

    // "10 packages are there: FULL", tested first
    private static void tenPackagesAreThere() {
        Refusal refusal = Refusal.after(Given::everything);
        refusal.due("an eleventh package", x -> x.addPackage(0, 9, 0), FULL);
        refusal.due("an eleventh package, known", x -> x.addPackage(0, 1, 0), FULL);
        for (int name : Numbers.outside(0, 4)) {
            refusal.due("an eleventh package, name " + name, x -> x.addPackage(name, 9, 0), FULL);
        }
        for (int version : Numbers.outside(1, 9)) {
            refusal.due("an eleventh package, version " + version, x -> x.addPackage(0, version, 0), FULL);
        }
        for (int features : Numbers.outside(0, 15)) {
            refusal.due("an eleventh package, features " + features, x -> x.addPackage(0, 9, features), FULL);
        }
    }

    // "name outside 0..4 .. BAD"
    private static void nameOutside() {
        Refusal none = Refusal.after(Given::nothing);
        Refusal some = Refusal.after(Given::some);
        for (int name : Numbers.outside(0, 4)) {
            none.due("addPackage(" + name + ", 1, 0)", x -> x.addPackage(name, 1, 0), BAD);
            some.due("a fifth package, name " + name, x -> x.addPackage(name, 9, 15), BAD);
        }
        Check.due("name 0", new UpgradeOptimiser().addPackage(0, 5, 5), 0);
        Check.due("name 4", new UpgradeOptimiser().addPackage(4, 5, 5), 0);
    }

    // "version outside 1..9 .. BAD"
    private static void versionOutside() {
        Refusal none = Refusal.after(Given::nothing);
        Refusal some = Refusal.after(Given::some);
        for (int version : Numbers.outside(1, 9)) {
            none.due("addPackage(0, " + version + ", 0)", x -> x.addPackage(0, version, 0), BAD);
            some.due("a fifth package, version " + version, x -> x.addPackage(4, version, 15), BAD);
        }
        Check.due("version 1", new UpgradeOptimiser().addPackage(2, 1, 5), 0);
        Check.due("version 9", new UpgradeOptimiser().addPackage(2, 9, 5), 0);
    }

    // "features outside 0..15 .. BAD"
    private static void featuresOutside() {
        Refusal none = Refusal.after(Given::nothing);
        Refusal some = Refusal.after(Given::some);
        for (int features : Numbers.outside(0, 15)) {
            none.due("addPackage(0, 1, " + features + ")", x -> x.addPackage(0, 1, features), BAD);
            some.due("a fifth package, features " + features, x -> x.addPackage(4, 9, features), BAD);
        }
        Check.due("features 0", new UpgradeOptimiser().addPackage(2, 5, 0), 0);
        Check.due("features 15", new UpgradeOptimiser().addPackage(2, 5, 15), 0);
    }

    // "or a package with this name and version is there: BAD"
    private static void sameNameAndVersion() {
        Refusal some = Refusal.after(Given::some);
        for (int features = 0; features < 16; features++) {
            int set = features;
            some.due("the first again, features " + features, x -> x.addPackage(0, 1, set), BAD);
            some.due("the last again, features " + features, x -> x.addPackage(2, 5, set), BAD);
        }
        UpgradeOptimiser x = new UpgradeOptimiser();
        for (int p = 0; p < 9; p++) {
            x.addPackage(3, p + 1, 0);
        }
        for (int p = 0; p < 9; p++) {
            Check.due("version " + (p + 1) + " again, with room for one", x.addPackage(3, p + 1, 0), BAD);
        }
        Check.due("the last room", x.addPackage(4, 1, 0), 9);
        Check.due("version 1 again, with room for none", x.addPackage(3, 1, 0), FULL);
    }

    // The same sentence: a package that was refused is not there
    private static void aRefusedPackageIsNotKnown() {
        UpgradeOptimiser x = new UpgradeOptimiser();
        Check.due("refused for its features", x.addPackage(0, 1, 16), BAD);
        Check.due("the same name and version", x.addPackage(0, 1, 0), 0);
        Check.due("refused, being there", x.addPackage(0, 1, 15), BAD);
        x.need(0, true, 0, 0);
        Check.due("its features are the first ones", x.right(1), false);
    }

    // "Else answers its number"
    private static void answersItsNumber() {
        UpgradeOptimiser x = new UpgradeOptimiser();
        for (int p = 0; p < 10; p++) {
            Check.due("a bad one before package " + p, x.addPackage(5, 1, 0), BAD);
            Check.due("package " + p, x.addPackage(4 - p / 2, 9 - p % 2, 0), p);
            Check.due("sets of " + (p + 1) + " packages", x.right(1 << p), true);
            Check.due("sets of more than " + (p + 1) + " packages", x.right(2 << p), false);
        }
    }

    // "it is not installed"
    private static void itIsNotInstalled() {
        UpgradeOptimiser x = new UpgradeOptimiser();
        int installed = 0;
        for (int p = 0; p < 5; p++) {
            x.addPackage(p, 1, 0);
            Check.due("best() leaves out package " + p, x.best(), installed);
            Check.due("cost(1) without package " + p, x.cost(1), 0);
            installed |= 1 << p;
            x.install(installed);
        }
        UpgradeOptimiser y = new UpgradeOptimiser();
        Check.due("a set of no package yet", y.install(1), false);
        y.addPackage(0, 1, 0);
        Check.due("best() where that set was refused", y.best(), 0);
    }
}
