/** Promise 3: each sentence with a boundary case. */
public final class NeedEdgesTest {
    private static final int FULL = UpgradeOptimiser.FULL;

    public static void main(String[] args) {
        PatternCall.badAnswers("need", UpgradeOptimiser::need);
        theEdgesOfAPatternAreTaken();
        theBoundPlaysNoPartForAFeature();
        twoNeedsAreThere();
        answersTheNumberOfItsNeeds();
        aNeedHasOnePattern();
        Check.end();
    }

    // The ranges of the same sentence: 0..4 for a name, 0..3 for a feature, 1..9 for the bound
    private static void theEdgesOfAPatternAreTaken() {
        for (int name = 0; name < 5; name++) {
            for (int bound = 1; bound <= 9; bound++) {
                UpgradeOptimiser x = new UpgradeOptimiser();
                x.addPackage(0, 1, 0);
                String text = "need(0, false, " + name + ", " + bound + ")";
                Check.due(text, x.need(0, false, name, bound), 1);
                Check.due(text + ": right(1)", x.right(1), name == 0 && bound == 1);
            }
        }
        for (int feature = 0; feature < 4; feature++) {
            UpgradeOptimiser x = new UpgradeOptimiser();
            x.addPackage(0, 1, 0);
            Check.due("need(0, true, " + feature + ", 1)", x.need(0, true, feature, 1), 1);
        }
    }

    // "the feature x (feature true; the bound plays no part)"
    private static void theBoundPlaysNoPartForAFeature() {
        for (int bound : Numbers.ofAnyKind()) {
            UpgradeOptimiser x = new UpgradeOptimiser();
            x.addPackage(0, 1, 0);
            x.addPackage(1, 1, 1);
            x.addPackage(2, 9, 2);
            String text = "need(0, true, 0, " + bound + ")";
            Check.due(text, x.need(0, true, 0, bound), 1);
            Check.due(text + ": with the feature", x.right(1 | 2), true);
            Check.due(text + ": without it", x.right(1 | 4), false);
        }
    }

    // "p has 2 needs: FULL"
    private static void twoNeedsAreThere() {
        Refusal some = Refusal.after(Given::some);
        Refusal everything = Refusal.after(Given::everything);
        for (int name = 0; name < 5; name++) {
            int number = name;
            some.due("a third need of name " + name, x -> x.need(1, false, number, 9), FULL);
            everything.due("a third need of name " + name, x -> x.need(9, false, number, 1), FULL);
        }
        for (int feature = 0; feature < 4; feature++) {
            int number = feature;
            some.due("a third need of feature " + feature, x -> x.need(1, true, number, 0), FULL);
            everything.due("a third need of feature " + feature, x -> x.need(0, true, number, -1), FULL);
        }
    }

    // "Else answers the number of its needs."
    private static void answersTheNumberOfItsNeeds() {
        UpgradeOptimiser x = new UpgradeOptimiser();
        Given.tenPackages(x);
        for (int p = 9; p >= 0; p--) {
            Check.due("first need of package " + p, x.need(p, true, 0, 0), 1);
            Check.due("a clash is not a need", x.clash(p, true, 0, 0), 1);
            Check.due("a second pattern is not a need", x.orNeed(p, true, 1, 0), 2);
            Check.due("a bad need is not counted", x.need(p, true, 4, 0), UpgradeOptimiser.BAD);
            Check.due("the same need again", x.need(p, true, 0, 0), 2);
            Check.due("one more", x.need(p, true, 0, 0), FULL);
        }
    }

    // "Gives package p a need of one pattern"
    private static void aNeedHasOnePattern() {
        UpgradeOptimiser x = new UpgradeOptimiser();
        x.addPackage(0, 1, 0);
        x.addPackage(1, 1, 0);
        x.addPackage(2, 1, 0);
        x.need(0, false, 1, 1);
        x.orNeed(0, false, 2, 1);
        x.need(0, false, 1, 1);
        Check.due("the second need has not the first one's patterns", x.right(1 | 4), false);
        Check.due("both needs are met", x.right(1 | 2), true);
        Check.due("the other package has no need", x.right(4), true);
    }
}
