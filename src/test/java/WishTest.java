/** Promises 7 and 8: wish and dropWishes. */
public final class WishTest {
    public static void main(String[] args) {
        answers();
        wishesDecideWhatIsRight();
        aWishForAnUnknownName();
        droppedWishesPlayNoPart();
        Check.end();
    }

    private static void answers() {
        UpgradeOptimiser x = new UpgradeOptimiser();
        Check.due("wish(-1)", x.wish(-1, true), UpgradeOptimiser.BAD);
        Check.due("wish(5)", x.wish(5, false), UpgradeOptimiser.BAD);
        Check.due("wish(MIN)", x.wish(Integer.MIN_VALUE, false), UpgradeOptimiser.BAD);
        Check.due("wish(MAX)", x.wish(Integer.MAX_VALUE, false), UpgradeOptimiser.BAD);
        Check.due("a refused wish leaves nothing", x.dropWishes(), 0);
        Check.due("first wish", x.wish(0, false), 1);
        Check.due("second wish", x.wish(4, false), 2);
        Check.due("third wish, the first again", x.wish(0, false), 3);
        Check.due("fourth wish", x.wish(1, false), 4);
        Check.due("fifth wish", x.wish(2, true), UpgradeOptimiser.FULL);
        Check.due("fifth wish, bad name", x.wish(5, true), UpgradeOptimiser.BAD);
        Check.due("the refused wishes play no part", x.right(0), true);
        Check.due("dropWishes()", x.dropWishes(), 4);
        Check.due("dropWishes() again", x.dropWishes(), 0);
        Check.due("a wish after dropWishes()", x.wish(3, true), 1);
        Check.due("dropWishes()", x.dropWishes(), 1);
    }

    private static void wishesDecideWhatIsRight() {
        UpgradeOptimiser x = new UpgradeOptimiser();
        x.addPackage(0, 1, 0);
        x.addPackage(0, 2, 0);
        x.addPackage(1, 1, 0);
        x.wish(0, true);
        Check.due("without the name", x.right(4), false);
        Check.due("with version 1 of it", x.right(1), true);
        Check.due("with version 2 of it", x.right(2), true);
        x.wish(1, false);
        Check.due("with the name that is to be away", x.right(1 | 4), false);
        Check.due("without it", x.right(1), true);
        x.wish(0, false);
        Check.due("wishes against each other", x.rightSets(), 0);
    }

    private static void aWishForAnUnknownName() {
        UpgradeOptimiser x = new UpgradeOptimiser();
        x.wish(3, false);
        Check.due("away: right(0)", x.right(0), true);
        x.dropWishes();
        x.wish(3, true);
        Check.due("there: right(0)", x.right(0), false);
        Check.due("there: best()", x.best(), UpgradeOptimiser.NONE);
        x.addPackage(3, 1, 0);
        Check.due("there, now that the name is known: best()", x.best(), 1);
    }

    private static void droppedWishesPlayNoPart() {
        UpgradeOptimiser x = new UpgradeOptimiser();
        x.addPackage(0, 1, 0);
        x.wish(0, true);
        x.wish(1, true);
        Check.due("best() with the wishes", x.best(), UpgradeOptimiser.NONE);
        Check.due("dropWishes()", x.dropWishes(), 2);
        Check.due("best() without them", x.best(), 0);
        Check.due("a new wish", x.wish(0, true), 1);
        Check.due("best() with the new wish alone", x.best(), 1);
    }
}
