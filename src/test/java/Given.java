/** States that the edge tests start from. */
final class Given {
    private Given() {
    }

    static void nothing(UpgradeOptimiser x) {
    }

    /** Four packages with 1, 2, 0 and 1 needs and 1, 2, 0 and 0 clashes, one wish, three packages installed. */
    static void some(UpgradeOptimiser x) {
        x.addPackage(0, 1, 1);
        x.addPackage(0, 3, 2);
        x.addPackage(1, 2, 4);
        x.addPackage(2, 5, 0);
        x.need(0, false, 1, 2);
        x.orNeed(0, true, 3, 0);
        x.need(1, false, 1, 1);
        x.orNeed(1, false, 2, 5);
        x.need(1, true, 1, 0);
        x.need(3, true, 2, 0);
        x.clash(0, false, 2, 4);
        x.clash(1, false, 3, 9);
        x.clash(1, true, 3, 0);
        x.wish(1, true);
        x.install(1 | 4 | 8);
    }

    /** Ten packages, two of each name, with neither needs nor clashes. */
    static void tenPackages(UpgradeOptimiser x) {
        for (int p = 0; p < 10; p++) {
            x.addPackage(p % 5, 1 + p / 5, p);
        }
    }

    /** All that an object can hold: ten packages with two needs of two patterns and two clashes each, four wishes. */
    static void everything(UpgradeOptimiser x) {
        tenPackages(x);
        for (int p = 0; p < 10; p++) {
            x.need(p, false, (p + 1) % 5, 1);
            x.orNeed(p, true, p % 3, 0);
            x.need(p, false, p % 5, 2);
            x.orNeed(p, false, (p + 2) % 5, 1);
            x.clash(p, false, p % 5, 9);
            x.clash(p, false, (p + 3) % 5, 1);
        }
        x.wish(0, true);
        x.wish(4, true);
        x.wish(0, true);
        x.wish(4, true);
        x.install(1 | 4 | 64 | 256);
    }

    /** No set is right: a name that no package bears is to be there. */
    static void noRightSet(UpgradeOptimiser x) {
        some(x);
        x.wish(4, true);
    }
}
