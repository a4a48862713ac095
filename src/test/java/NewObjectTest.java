/** Promise 1: a new object has no packages, nothing installed and no wishes. */
public final class NewObjectTest {
    public static void main(String[] args) {
        UpgradeOptimiser x = new UpgradeOptimiser();
        Check.due("need(0, ..) without packages", x.need(0, true, 0, 0), UpgradeOptimiser.BAD);
        Check.due("right(0)", x.right(0), true);
        Check.due("right(1)", x.right(1), false);
        Check.due("install(1)", x.install(1), false);
        Check.due("install(0)", x.install(0), true);
        Check.due("rightSets()", x.rightSets(), 1);
        Check.due("best()", x.best(), 0);
        Check.due("cost(0)", x.cost(0), 0);
        Check.due("cost(1)", x.cost(1), 0);
        Check.due("cost(2)", x.cost(2), 0);
        Check.due("dropWishes()", x.dropWishes(), 0);

        UpgradeOptimiser y = new UpgradeOptimiser();
        for (int p = 0; p < 5; p++) {
            Check.due("addPackage number " + p, y.addPackage(p, 1, 0), p);
        }
        Check.due("best() with nothing installed", y.best(), 0);
        Check.due("cost(1) with nothing installed", y.cost(1), 0);
        objectsAreApart();
        Check.end();
    }

    private static void objectsAreApart() {
        UpgradeOptimiser x = new UpgradeOptimiser();
        x.addPackage(0, 1, 0);
        x.wish(0, true);
        x.install(1);
        UpgradeOptimiser y = new UpgradeOptimiser();
        Check.due("right(1) of another object", y.right(1), false);
        Check.due("dropWishes() of another object", y.dropWishes(), 0);
        Check.due("best() of another object", y.best(), 0);
        Check.due("dropWishes() of the first object", x.dropWishes(), 1);
        Check.due("best() of the first object", x.best(), 1);
    }
}
