/** Promise 4: each sentence with a boundary case. */
public final class OrNeedEdgesTest {
    private static final int BAD = UpgradeOptimiser.BAD;
    private static final int FULL = UpgradeOptimiser.FULL;
    private static final int NONE = UpgradeOptimiser.NONE;

    public static void main(String[] args) {
        PatternCall.badAnswers("orNeed", UpgradeOptimiser::orNeed);
        badComesFirst();
        noNeedIsThere();
        theLatestNeedHasTwoPatterns();
        onlyTheLatestNeedIsWidened();
        theEdgesOfAPatternAreTaken();
        theBoundPlaysNoPartForAFeature();
        aRefusedNeedIsNotTheLatest();
        Check.end();
    }

    // "Tested in this order: BAD as in need; p has no need: NONE; its latest need has two patterns: FULL."
    private static void badComesFirst() {
        UpgradeOptimiser x = new UpgradeOptimiser();
        Given.some(x);
        Check.due("no need, bad name", x.orNeed(2, false, 5, 1), BAD);
        Check.due("no need, bad bound", x.orNeed(2, false, 0, 10), BAD);
        Check.due("no need, bad feature", x.orNeed(2, true, 4, 1), BAD);
        Check.due("two patterns, bad name", x.orNeed(0, false, -1, 1), BAD);
        Check.due("two patterns, bad bound", x.orNeed(0, false, 0, 0), BAD);
        Check.due("two patterns, bad feature", x.orNeed(0, true, -1, 1), BAD);
    }

    // "p has no need: NONE"
    private static void noNeedIsThere() {
        Refusal some = Refusal.after(Given::some);
        Refusal ten = Refusal.after(Given::tenPackages);
        for (int name = 0; name < 5; name++) {
            int number = name;
            some.due("orNeed(2, false, " + name + ", 9)", x -> x.orNeed(2, false, number, 9), NONE);
            ten.due("orNeed(0, false, " + name + ", 1)", x -> x.orNeed(0, false, number, 1), NONE);
            ten.due("orNeed(9, false, " + name + ", 9)", x -> x.orNeed(9, false, number, 9), NONE);
        }
        for (int feature = 0; feature < 4; feature++) {
            int number = feature;
            some.due("orNeed(2, true, " + feature + ", 0)", x -> x.orNeed(2, true, number, 0), NONE);
        }
    }

    // "its latest need has two patterns: FULL"
    private static void theLatestNeedHasTwoPatterns() {
        Refusal some = Refusal.after(Given::some);
        Refusal everything = Refusal.after(Given::everything);
        for (int name = 0; name < 5; name++) {
            int number = name;
            some.due("a third pattern, name " + name, x -> x.orNeed(0, false, number, 1), FULL);
            everything.due("a third pattern, name " + name, x -> x.orNeed(9, false, number, 1), FULL);
        }
        for (int feature = 0; feature < 4; feature++) {
            int number = feature;
            some.due("a third pattern, feature " + feature, x -> x.orNeed(0, true, number, 0), FULL);
            everything.due("a third pattern, feature " + feature, x -> x.orNeed(0, true, number, 0), FULL);
        }
    }

    // "Gives the latest need of package p a second pattern", "Else answers 2."
    private static void onlyTheLatestNeedIsWidened() {
        UpgradeOptimiser x = new UpgradeOptimiser();
        for (int name = 0; name < 5; name++) {
            x.addPackage(name, 1, 0);
        }
        x.need(0, false, 1, 1);
        x.need(1, false, 0, 1);
        x.need(0, false, 2, 1);
        Check.due("the second need of package 0", x.orNeed(0, false, 3, 1), 2);
        Check.due("it is full, though the first is not", x.orNeed(0, false, 4, 1), FULL);
        Check.due("its first pattern", x.right(1 | 2 | 4), true);
        Check.due("its second pattern", x.right(1 | 2 | 8), true);
        Check.due("the first need still stands", x.right(1 | 4 | 8), false);
        Check.due("the need of package 1", x.orNeed(1, false, 4, 1), 2);
        Check.due("package 1 by its second pattern", x.right(2 | 16), true);
        Check.due("package 0 gained nothing by it", x.right(1 | 2 | 16), false);
        Check.due("another need after a full one", x.need(1, false, 2, 1), 2);
        Check.due("it has room again", x.orNeed(1, false, 3, 1), 2);
        Check.due("both needs by their second patterns", x.right(2 | 8 | 16), true);
    }

    // "in the same form": the ranges of need
    private static void theEdgesOfAPatternAreTaken() {
        for (int name = 0; name < 5; name++) {
            for (int bound = 1; bound <= 9; bound++) {
                UpgradeOptimiser x = new UpgradeOptimiser();
                x.addPackage(4, 9, 0);
                x.need(0, true, 0, 0);
                String text = "orNeed(0, false, " + name + ", " + bound + ")";
                Check.due(text, x.orNeed(0, false, name, bound), 2);
                Check.due(text + ": right(1)", x.right(1), name == 4);
            }
        }
        for (int feature = 0; feature < 4; feature++) {
            UpgradeOptimiser x = new UpgradeOptimiser();
            x.addPackage(4, 9, 8);
            x.need(0, false, 0, 1);
            Check.due("orNeed(0, true, " + feature + ", 1)", x.orNeed(0, true, feature, 1), 2);
            Check.due("feature " + feature + ": right(1)", x.right(1), feature == 3);
        }
    }

    // The same: "the bound plays no part"
    private static void theBoundPlaysNoPartForAFeature() {
        for (int bound : Numbers.ofAnyKind()) {
            UpgradeOptimiser x = new UpgradeOptimiser();
            x.addPackage(0, 1, 0);
            x.addPackage(1, 1, 1);
            x.addPackage(2, 9, 2);
            x.need(0, false, 4, 9);
            String text = "orNeed(0, true, 0, " + bound + ")";
            Check.due(text, x.orNeed(0, true, 0, bound), 2);
            Check.due(text + ": with the feature", x.right(1 | 2), true);
            Check.due(text + ": without it", x.right(1 | 4), false);
        }
    }

    // "the latest need": one that was refused is none
    private static void aRefusedNeedIsNotTheLatest() {
        UpgradeOptimiser x = new UpgradeOptimiser();
        x.addPackage(0, 1, 0);
        Check.due("a bad need", x.need(0, false, 5, 1), BAD);
        Check.due("still no need", x.orNeed(0, false, 0, 1), NONE);
        x.need(0, false, 0, 1);
        x.orNeed(0, false, 1, 1);
        Check.due("another bad need", x.need(0, false, 0, 0), BAD);
        Check.due("still two patterns", x.orNeed(0, false, 0, 1), FULL);
        x.need(0, false, 1, 1);
        Check.due("a need too many", x.need(0, false, 0, 1), FULL);
        Check.due("the second need is the latest", x.orNeed(0, false, 0, 1), 2);
        Check.due("it is met", x.right(1), true);
    }
}
