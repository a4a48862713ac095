/** Promise 6: install. */
public final class InstallTest {
    public static void main(String[] args) {
        UpgradeOptimiser x = new UpgradeOptimiser();
        Check.due("install(0) without packages", x.install(0), true);
        Check.due("install(1) without packages", x.install(1), false);
        x.addPackage(0, 1, 0);
        x.addPackage(1, 1, 0);
        Check.due("install(3)", x.install(3), true);
        Check.due("best()", x.best(), 3);
        Check.due("install(4)", x.install(4), false);
        Check.due("install(-1)", x.install(-1), false);
        Check.due("install(MIN)", x.install(Integer.MIN_VALUE), false);
        Check.due("install(MAX)", x.install(Integer.MAX_VALUE), false);
        Check.due("best() after refused sets", x.best(), 3);
        Check.due("install(2)", x.install(2), true);
        Check.due("best() of the new installed set", x.best(), 2);
        Check.due("install(0)", x.install(0), true);
        Check.due("best() with nothing installed", x.best(), 0);
        aSetThatIsNotRightMayBeInstalled();
        allTenMayBeInstalled();
        Check.end();
    }

    private static void aSetThatIsNotRightMayBeInstalled() {
        UpgradeOptimiser x = new UpgradeOptimiser();
        x.addPackage(0, 1, 0);
        x.addPackage(0, 2, 0);
        Check.due("install of one name twice", x.install(3), true);
        Check.due("best()", x.best(), 2);
        Check.due("cost(1)", x.cost(1), 1);
    }

    private static void allTenMayBeInstalled() {
        UpgradeOptimiser x = new UpgradeOptimiser();
        for (int p = 0; p < 10; p++) {
            x.addPackage(p % 5, 1 + p / 5, 0);
        }
        Check.due("install(1023)", x.install(1023), true);
        Check.due("install(1024)", x.install(1024), false);
        Check.due("best()", x.best(), 992);
        Check.due("cost(1)", x.cost(1), 5);
    }
}
