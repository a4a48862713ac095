/** Promises 7, 8 and 13 on wish: each sentence with a boundary case. */
public final class WishEdgesTest {
    private static final int BAD = UpgradeOptimiser.BAD;
    private static final int FULL = UpgradeOptimiser.FULL;

    public static void main(String[] args) {
        nameOutside();
        fourWishesAreThere();
        badComesFirst();
        answersTheNumberOfWishes();
        everyOneOfFourWishesCounts();
        dropWishesAnswersHowManyThereWere();
        dropWishesTakesAllAway();
        noWishesToDrop();
        Check.end();
    }

    // "name outside 0..4: BAD"
    private static void nameOutside() {
        Refusal nothing = Refusal.after(Given::nothing);
        Refusal some = Refusal.after(Given::some);
        for (int name : Numbers.outside(0, 4)) {
            nothing.due("wish(" + name + ", true)", x -> x.wish(name, true), BAD);
            some.due("wish(" + name + ", false)", x -> x.wish(name, false), BAD);
            some.due("a second wish(" + name + ", true)", x -> x.wish(name, true), BAD);
        }
        for (int name = 0; name < 5; name++) {
            Check.due("wish(" + name + ", true)", new UpgradeOptimiser().wish(name, true), 1);
            Check.due("wish(" + name + ", false)", new UpgradeOptimiser().wish(name, false), 1);
        }
    }

    // "4 wishes are there: FULL"
    private static void fourWishesAreThere() {
        Refusal everything = Refusal.after(Given::everything);
        for (int name = 0; name < 5; name++) {
            int number = name;
            everything.due("a fifth wish(" + name + ", true)", x -> x.wish(number, true), FULL);
            everything.due("a fifth wish(" + name + ", false)", x -> x.wish(number, false), FULL);
        }
    }

    // "wish: tested in this order: name outside 0..4: BAD; 4 wishes are there: FULL."
    private static void badComesFirst() {
        Refusal everything = Refusal.after(Given::everything);
        for (int name : Numbers.outside(0, 4)) {
            everything.due("a fifth wish(" + name + ", true)", x -> x.wish(name, true), BAD);
        }
    }

    // "Else answers the number of wishes."
    private static void answersTheNumberOfWishes() {
        UpgradeOptimiser x = new UpgradeOptimiser();
        for (int wishes = 1; wishes <= 4; wishes++) {
            Check.due("a bad one before wish " + wishes, x.wish(5, true), BAD);
            Check.due("wish " + wishes + ", the same each time", x.wish(4, true), wishes);
        }
        Check.due("wish 5", x.wish(4, true), FULL);
        Check.due("wish 6", x.wish(4, true), FULL);
    }

    // "Adds a wish": the others stay
    private static void everyOneOfFourWishesCounts() {
        for (int first = 0; first < 5; first++) {
            UpgradeOptimiser x = new UpgradeOptimiser();
            for (int name = 0; name < 5; name++) {
                x.addPackage(name, 1, 0);
            }
            for (int more = 0; more < 4; more++) {
                x.wish((first + more) % 5, more % 2 == 0);
                Check.due("rightSets() with " + (more + 1) + " wishes", x.rightSets(), 16 >> more);
            }
            int there = 1 << first | 1 << (first + 2) % 5;
            Check.due("best() with the names of " + there + " wished", x.best(), there);
        }
    }

    // "answers how many there were"
    private static void dropWishesAnswersHowManyThereWere() {
        for (int wishes = 0; wishes <= 6; wishes++) {
            UpgradeOptimiser x = new UpgradeOptimiser();
            for (int wish = 0; wish < wishes; wish++) {
                x.wish(wish % 5, false);
                x.wish(-1, true);
            }
            Check.due("dropWishes() after " + wishes + " wishes", x.dropWishes(), wishes <= 4 ? wishes : 4);
            Check.due("dropWishes() again", x.dropWishes(), 0);
        }
    }

    // "Takes all wishes away"
    private static void dropWishesTakesAllAway() {
        UpgradeOptimiser x = new UpgradeOptimiser();
        for (int round = 0; round < 20; round++) {
            for (int wishes = 1; wishes <= 4; wishes++) {
                Check.due("round " + round + ", wish " + wishes, x.wish((round + wishes) % 5, true), wishes);
            }
            Check.due("round " + round + ", a fifth wish", x.wish(0, true), FULL);
            Check.due("round " + round + ": right(0) with the wishes", x.right(0), false);
            Check.due("round " + round + ": dropWishes()", x.dropWishes(), 4);
            Check.due("round " + round + ": right(0) without them", x.right(0), true);
            Check.due("round " + round + ": one wish", x.wish(1, false), 1);
            Check.due("round " + round + ": right(0) with that one alone", x.right(0), true);
            Check.due("round " + round + ": dropWishes()", x.dropWishes(), 1);
        }
    }

    // The same sentence with no wishes there, and nothing but wishes taken away
    private static void noWishesToDrop() {
        Refusal.after(Given::nothing).due("dropWishes()", UpgradeOptimiser::dropWishes, 0);
        Refusal.after(Given::tenPackages).due("dropWishes()", UpgradeOptimiser::dropWishes, 0);
        UpgradeOptimiser x = new UpgradeOptimiser();
        Given.everything(x);
        Check.due("dropWishes() with all there can be", x.dropWishes(), 4);
        Check.due("what is installed stays: best()", x.best(), 480);
        Check.due("the packages stay: addPackage", x.addPackage(0, 9, 0), FULL);
        Check.due("the needs stay", x.need(0, true, 0, 0), FULL);
        Check.due("the clashes stay", x.clash(0, true, 0, 0), FULL);
        Check.due("rightSets()", x.rightSets(), 29);
    }
}
