/** Promises 5 and 13 on clash: each sentence with a boundary case. */
public final class ClashEdgesTest {
    private static final int BAD = UpgradeOptimiser.BAD;
    private static final int FULL = UpgradeOptimiser.FULL;

    public static void main(String[] args) {
        PatternCall.badAnswers("clash", UpgradeOptimiser::clash);
        badComesFirst();
        twoClashesAreThere();
        answersTheNumberOfItsClashes();
        theEdgesOfAPatternAreTaken();
        theBoundPlaysNoPartForAFeature();
        Check.end();
    }

    // "clash: tested in this order: BAD as in need; p has 2 clashes: FULL."
    private static void badComesFirst() {
        UpgradeOptimiser x = new UpgradeOptimiser();
        Given.some(x);
        Check.due("two clashes, bad name", x.clash(1, false, 5, 1), BAD);
        Check.due("two clashes, bad bound", x.clash(1, false, 4, 10), BAD);
        Check.due("two clashes, bad feature", x.clash(1, true, 4, 1), BAD);
        Check.due("two clashes, nothing bad", x.clash(1, true, 3, 10), FULL);
    }

    // "p has 2 clashes: FULL"
    private static void twoClashesAreThere() {
        Refusal some = Refusal.after(Given::some);
        Refusal everything = Refusal.after(Given::everything);
        for (int name = 0; name < 5; name++) {
            int number = name;
            some.due("a third clash with name " + name, x -> x.clash(1, false, number, 9), FULL);
            everything.due("a third clash with name " + name, x -> x.clash(9, false, number, 9), FULL);
        }
        for (int feature = 0; feature < 4; feature++) {
            int number = feature;
            some.due("a third clash with feature " + feature, x -> x.clash(1, true, number, 0), FULL);
            everything.due("a third clash with feature " + feature, x -> x.clash(0, true, number, -1), FULL);
        }
    }

    // "Else answers the number of its clashes."
    private static void answersTheNumberOfItsClashes() {
        UpgradeOptimiser x = new UpgradeOptimiser();
        Given.tenPackages(x);
        for (int p = 9; p >= 0; p--) {
            Check.due("first clash of package " + p, x.clash(p, true, 0, 0), 1);
            Check.due("a need is not a clash", x.need(p, true, 0, 0), 1);
            Check.due("a bad clash is not counted", x.clash(p, true, 4, 0), BAD);
            Check.due("the same clash again", x.clash(p, true, 0, 0), 2);
            Check.due("one more", x.clash(p, true, 0, 0), FULL);
        }
    }

    // "in the same form": the ranges of need
    private static void theEdgesOfAPatternAreTaken() {
        for (int name = 0; name < 5; name++) {
            for (int bound = 1; bound <= 9; bound++) {
                UpgradeOptimiser x = new UpgradeOptimiser();
                x.addPackage(0, 1, 0);
                x.addPackage(4, 9, 0);
                String text = "clash(0, false, " + name + ", " + bound + ")";
                Check.due(text, x.clash(0, false, name, bound), 1);
                Check.due(text + ": right(1)", x.right(1), true);
                Check.due(text + ": right(3)", x.right(3), name != 4 || bound != 9);
            }
        }
        for (int feature = 0; feature < 4; feature++) {
            UpgradeOptimiser x = new UpgradeOptimiser();
            x.addPackage(0, 1, 15);
            x.addPackage(4, 9, 8);
            Check.due("clash(0, true, " + feature + ", 1)", x.clash(0, true, feature, 1), 1);
            Check.due("feature " + feature + ": right(3)", x.right(3), feature != 3);
        }
    }

    // The same: "the bound plays no part"
    private static void theBoundPlaysNoPartForAFeature() {
        for (int bound : Numbers.ofAnyKind()) {
            UpgradeOptimiser x = new UpgradeOptimiser();
            x.addPackage(0, 5, 0);
            x.addPackage(1, 5, 1);
            x.addPackage(2, 5, 2);
            String text = "clash(0, true, 0, " + bound + ")";
            Check.due(text, x.clash(0, true, 0, bound), 1);
            Check.due(text + ": with the feature", x.right(1 | 2), false);
            Check.due(text + ": without it", x.right(1 | 4), true);
        }
    }
}
