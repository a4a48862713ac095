/** Promise 2: addPackage. */
public final class AddPackageTest {
    private static final int[] FAR = {Integer.MIN_VALUE, -1, Integer.MAX_VALUE};

    public static void main(String[] args) {
        edgesAreTaken();
        wrongInputsAreRefused();
        fullComesFirst();
        aNewPackageIsBare();
        Check.end();
    }

    private static void edgesAreTaken() {
        UpgradeOptimiser x = new UpgradeOptimiser();
        Check.due("addPackage(0, 1, 0)", x.addPackage(0, 1, 0), 0);
        Check.due("addPackage(4, 9, 15)", x.addPackage(4, 9, 15), 1);
        Check.due("addPackage(0, 9, 15)", x.addPackage(0, 9, 15), 2);
        Check.due("addPackage(4, 1, 0)", x.addPackage(4, 1, 0), 3);
    }

    private static void wrongInputsAreRefused() {
        UpgradeOptimiser x = new UpgradeOptimiser();
        for (int far : FAR) {
            Check.due("addPackage(" + far + ", 1, 0)", x.addPackage(far, 1, 0), UpgradeOptimiser.BAD);
            Check.due("addPackage(0, " + far + ", 0)", x.addPackage(0, far, 0), UpgradeOptimiser.BAD);
            Check.due("addPackage(0, 1, " + far + ")", x.addPackage(0, 1, far), UpgradeOptimiser.BAD);
        }
        Check.due("addPackage(5, 1, 0)", x.addPackage(5, 1, 0), UpgradeOptimiser.BAD);
        Check.due("addPackage(0, 0, 0)", x.addPackage(0, 0, 0), UpgradeOptimiser.BAD);
        Check.due("addPackage(0, 10, 0)", x.addPackage(0, 10, 0), UpgradeOptimiser.BAD);
        Check.due("addPackage(0, 1, 16)", x.addPackage(0, 1, 16), UpgradeOptimiser.BAD);
        Check.due("a refused package leaves nothing", x.right(1), false);
        Check.due("addPackage(1, 2, 3)", x.addPackage(1, 2, 3), 0);
        Check.due("addPackage(1, 2, 4) again", x.addPackage(1, 2, 4), UpgradeOptimiser.BAD);
        Check.due("addPackage(2, 2, 3)", x.addPackage(2, 2, 3), 1);
        Check.due("addPackage(1, 3, 3)", x.addPackage(1, 3, 3), 2);
        Check.due("addPackage(2, 2, 3) again", x.addPackage(2, 2, 3), UpgradeOptimiser.BAD);
    }

    private static void fullComesFirst() {
        UpgradeOptimiser x = new UpgradeOptimiser();
        for (int p = 0; p < 10; p++) {
            Check.due("package " + p, x.addPackage(p % 5, 1 + p / 5, 0), p);
        }
        Check.due("an eleventh package", x.addPackage(0, 9, 0), UpgradeOptimiser.FULL);
        Check.due("an eleventh, known package", x.addPackage(0, 1, 0), UpgradeOptimiser.FULL);
        Check.due("an eleventh, bad name", x.addPackage(-1, 9, 0), UpgradeOptimiser.FULL);
        Check.due("an eleventh, bad version", x.addPackage(0, 0, 0), UpgradeOptimiser.FULL);
        Check.due("an eleventh, bad features", x.addPackage(0, 9, 16), UpgradeOptimiser.FULL);
        Check.due("right(1 << 9)", x.right(1 << 9), true);
        Check.due("right(1 << 10)", x.right(1 << 10), false);
    }

    private static void aNewPackageIsBare() {
        UpgradeOptimiser x = new UpgradeOptimiser();
        x.addPackage(0, 1, 0);
        x.install(1);
        x.addPackage(1, 1, 0);
        Check.due("best() leaves out the new package", x.best(), 1);
        Check.due("right(2): it has no needs", x.right(2), true);
        Check.due("right(3): it has no clashes", x.right(3), true);
        Check.due("its first need", x.need(1, true, 0, 0), 1);
        Check.due("its first clash", x.clash(1, true, 0, 0), 1);
    }
}
