/** Promise 1: each sentence with a boundary case, asked as the first call of a new object. */
public final class NewObjectEdgesTest {
    private static final int BAD = UpgradeOptimiser.BAD;

    public static void main(String[] args) {
        noPackages();
        nothingInstalled();
        noWishes();
        anotherObjectChangesNothing();
        Check.end();
    }

    // "No packages"
    private static void noPackages() {
        Check.due("need(0, ..)", new UpgradeOptimiser().need(0, true, 0, 0), BAD);
        Check.due("orNeed(0, ..)", new UpgradeOptimiser().orNeed(0, true, 0, 0), BAD);
        Check.due("clash(0, ..)", new UpgradeOptimiser().clash(0, true, 0, 0), BAD);
        Check.due("install(0)", new UpgradeOptimiser().install(0), true);
        Check.due("install(1)", new UpgradeOptimiser().install(1), false);
        Check.due("right(0)", new UpgradeOptimiser().right(0), true);
        Check.due("right(1)", new UpgradeOptimiser().right(1), false);
        Check.due("rightSets()", new UpgradeOptimiser().rightSets(), 1);
        for (int name = 0; name < 5; name++) {
            for (int version = 1; version <= 9; version++) {
                UpgradeOptimiser x = new UpgradeOptimiser();
                Check.due("addPackage(" + name + ", " + version + ", 15)", x.addPackage(name, version, 15), 0);
            }
        }
    }

    // "nothing installed"
    private static void nothingInstalled() {
        Check.due("best()", new UpgradeOptimiser().best(), 0);
        for (int k = 0; k < 3; k++) {
            Check.due("cost(" + k + ")", new UpgradeOptimiser().cost(k), 0);
        }
        UpgradeOptimiser x = new UpgradeOptimiser();
        Given.tenPackages(x);
        Check.due("best() with ten packages, none installed", x.best(), 0);
        for (int k = 0; k < 3; k++) {
            Check.due("cost(" + k + ") with ten packages, none installed", x.cost(k), 0);
        }
    }

    // "no wishes"
    private static void noWishes() {
        Check.due("dropWishes()", new UpgradeOptimiser().dropWishes(), 0);
        Check.due("wish(4, true)", new UpgradeOptimiser().wish(4, true), 1);
        UpgradeOptimiser x = new UpgradeOptimiser();
        Given.tenPackages(x);
        Check.due("rightSets() with ten packages, no wishes", x.rightSets(), 243);
    }

    // "A new object": what was done with another one plays no part
    private static void anotherObjectChangesNothing() {
        UpgradeOptimiser full = new UpgradeOptimiser();
        Given.everything(full);
        Refusal refusal = Refusal.after(Given::nothing);
        refusal.due("another object filled", x -> {
            UpgradeOptimiser other = new UpgradeOptimiser();
            Given.everything(other);
            return other.rightSets();
        }, 8);
        Check.due("the first object afterwards: rightSets()", full.rightSets(), 8);
    }
}
