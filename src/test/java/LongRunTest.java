import java.util.function.Consumer;
import java.util.function.ToIntFunction;

/** "An object is used for at most 512 calls after it has been made": the 512th still answers as the first would. */
public final class LongRunTest {
    private static final int CALLS = 512;
    private static final int BAD = UpgradeOptimiser.BAD;
    private static final int FULL = UpgradeOptimiser.FULL;
    private static final int NONE = UpgradeOptimiser.NONE;

    public static void main(String[] args) {
        wishesComeAndGo();
        installedSetsComeAndGo();
        theSameCallAgainAndAgain();
        packagesAreMadeLate();
        Check.end();
    }

    private static void wishesComeAndGo() {
        UpgradeOptimiser x = new UpgradeOptimiser();
        x.addPackage(2, 1, 0);
        int wishes = 0;
        for (int call = 2; call <= CALLS; call++) {
            if (call % 7 == 0) {
                Check.due("call " + call + ": dropWishes()", x.dropWishes(), wishes);
                wishes = 0;
            } else if (call % 7 == 6 || call == CALLS) {
                Check.due("call " + call + ": best()", x.best(), wishes == 0 ? 0 : 1);
            } else {
                int due = wishes < 4 ? wishes + 1 : FULL;
                Check.due("call " + call + ": wish(2, true)", x.wish(2, true), due);
                wishes = wishes < 4 ? due : wishes;
            }
        }
    }

    private static void installedSetsComeAndGo() {
        UpgradeOptimiser x = new UpgradeOptimiser();
        for (int name = 0; name < 5; name++) {
            x.addPackage(name, 1, 0);
        }
        int installed = 0;
        for (int call = 6; call <= CALLS; call++) {
            if (call % 2 == 0) {
                Check.due("call " + call + ": best()", x.best(), installed);
            } else {
                installed = call / 2 % 32;
                Check.due("call " + call + ": install(" + installed + ")", x.install(installed), true);
            }
        }
    }

    // Given.some and Given.noRightSet take 15 and 16 calls; the last two calls show that nothing has changed.
    private static void again(
            String text, Consumer<UpgradeOptimiser> before, ToIntFunction<UpgradeOptimiser> call, int due) {
        UpgradeOptimiser x = new UpgradeOptimiser();
        before.accept(x);
        for (int number = 17; number <= CALLS - 2; number++) {
            Check.due("call " + number + ": " + text, call.applyAsInt(x), due);
        }
        int first = x.rightSets();
        int last = x.addPackage(3, 3, 3);
        UpgradeOptimiser y = new UpgradeOptimiser();
        before.accept(y);
        Check.due("rightSets() after each " + text, first, y.rightSets());
        Check.due("addPackage(3, 3, 3) after each " + text, last, 4);
    }

    private static void theSameCallAgainAndAgain() {
        again("addPackage(5, 1, 0)", Given::some, x -> x.addPackage(5, 1, 0), BAD);
        again("addPackage(0, 1, 0)", Given::some, x -> x.addPackage(0, 1, 0), BAD);
        again("need(1, true, 0, 0)", Given::some, x -> x.need(1, true, 0, 0), FULL);
        again("need(1, true, 4, 0)", Given::some, x -> x.need(1, true, 4, 0), BAD);
        again("orNeed(0, true, 0, 0)", Given::some, x -> x.orNeed(0, true, 0, 0), FULL);
        again("orNeed(2, true, 0, 0)", Given::some, x -> x.orNeed(2, true, 0, 0), NONE);
        again("orNeed(2, true, 4, 0)", Given::some, x -> x.orNeed(2, true, 4, 0), BAD);
        again("clash(1, true, 0, 0)", Given::some, x -> x.clash(1, true, 0, 0), FULL);
        again("clash(1, true, 4, 0)", Given::some, x -> x.clash(1, true, 4, 0), BAD);
        again("install(16)", Given::some, x -> x.install(16) ? 1 : 0, 0);
        again("install(13)", Given::some, x -> x.install(13) ? 1 : 0, 1);
        again("wish(5, true)", Given::some, x -> x.wish(5, true), BAD);
        again("right(16)", Given::some, x -> x.right(16) ? 1 : 0, 0);
        again("right(13)", Given::some, x -> x.right(13) ? 1 : 0, 1);
        again("best()", Given::some, UpgradeOptimiser::best, 13);
        again("cost(2)", Given::some, x -> x.cost(2), 1);
        again("cost(3)", Given::some, x -> x.cost(3), BAD);
        again("rightSets()", Given::some, UpgradeOptimiser::rightSets, 6);
        again("best() with no right set", Given::noRightSet, UpgradeOptimiser::best, NONE);
        again("cost(0) with no right set", Given::noRightSet, x -> x.cost(0), NONE);
        again("cost(-1) with no right set", Given::noRightSet, x -> x.cost(-1), BAD);
        again("rightSets() with no right set", Given::noRightSet, UpgradeOptimiser::rightSets, 0);
    }

    // All the room is still there after hundreds of calls, and is full at the 512th.
    private static void packagesAreMadeLate() {
        UpgradeOptimiser x = new UpgradeOptimiser();
        for (int call = 1; call <= CALLS - 12; call++) {
            Check.due("call " + call + ": right(0)", x.right(0), true);
        }
        for (int p = 0; p < 10; p++) {
            Check.due("package " + p + ", made late", x.addPackage(p % 5, 1 + p / 5, 0), p);
        }
        Check.due("an eleventh package, made late", x.addPackage(0, 9, 0), FULL);
        Check.due("the 512th call: rightSets()", x.rightSets(), 243);
    }
}
