/** The sentences of "Terms" about packages, needs, clashes, wishes and right sets that name a boundary case. */
public final class TermsEdgesTest {
    private static final int BAD = UpgradeOptimiser.BAD;
    private static final int FULL = UpgradeOptimiser.FULL;

    public static void main(String[] args) {
        thereAreUpToTenPackages();
        theyAreNumberedInTheOrderOfTheirMaking();
        eachHasAName();
        eachHasAVersion();
        noTwoHaveTheSameNameAndVersion();
        eachHasASetOfFeatures();
        upToTwoNeedsAndTwoClashes();
        aPatternIsANameOrAFeature();
        aNeedHasOneOrTwoPatterns();
        aNeedIsMetByOneOfItsPatterns();
        aNameIsNeededAtLeastAtItsBound();
        aPackageMayMeetItsOwnNeed();
        aClashIsTouchedByAnotherPackage();
        aNameClashesAtMostAtItsBound();
        thereAreUpToFourWishes();
        noTwoPackagesOfTheSameName();
        everyNeedOfEachPackage();
        noClashOfAnyPackage();
        everyWish();
        Check.end();
    }

    // "There are up to 10 packages"
    private static void thereAreUpToTenPackages() {
        UpgradeOptimiser x = new UpgradeOptimiser();
        Check.due("no package: rightSets()", x.rightSets(), 1);
        for (int p = 0; p < 9; p++) {
            Check.due("package " + p, x.addPackage(0, p + 1, 0), p);
        }
        Check.due("the tenth package", x.addPackage(4, 9, 0), 9);
        Check.due("the tenth package is one like the others", x.right(1 << 9), true);
        Check.due("the eleventh package", x.addPackage(3, 9, 0), FULL);
        Check.due("ten packages: rightSets()", x.rightSets(), 20);
    }

    // "numbered from 0 in the order of their making"
    private static void theyAreNumberedInTheOrderOfTheirMaking() {
        UpgradeOptimiser x = new UpgradeOptimiser();
        Check.due("the first", x.addPackage(4, 9, 0), 0);
        Check.due("a refused one takes no number", x.addPackage(4, 9, 0), BAD);
        Check.due("the second, with less of everything", x.addPackage(0, 1, 0), 1);
        x.wish(4, true);
        Check.due("bit 0 speaks of the first", x.right(1), true);
        Check.due("bit 1 speaks of the second", x.right(2), false);
    }

    // "Each has a name (0 to 4)"
    private static void eachHasAName() {
        for (int wished = 0; wished < 5; wished++) {
            UpgradeOptimiser x = new UpgradeOptimiser();
            for (int name = 0; name < 5; name++) {
                Check.due("a package of name " + name, x.addPackage(name, 1, 0), name);
            }
            x.wish(wished, true);
            for (int name = 0; name < 5; name++) {
                Check.due("name " + name + " where " + wished + " is to be there", x.right(1 << name), name == wished);
            }
        }
    }

    // "a version (1 to 9"
    private static void eachHasAVersion() {
        UpgradeOptimiser x = new UpgradeOptimiser();
        for (int version = 1; version <= 9; version++) {
            Check.due("version " + version, x.addPackage(3, version, 0), version - 1);
        }
        x.install(1);
        Check.due("version 1 where 9 is known: cost(2)", x.cost(2), 1);
        x.install(1 << 7);
        Check.due("version 8 where 9 is known: cost(2)", x.cost(2), 1);
        x.install(1 << 8);
        Check.due("version 9: cost(2)", x.cost(2), 0);
    }

    // "no two packages have the same name and version"
    private static void noTwoHaveTheSameNameAndVersion() {
        for (int first = 0; first < 45; first++) {
            for (int second = 0; second < 45; second++) {
                UpgradeOptimiser x = new UpgradeOptimiser();
                x.addPackage(first / 9, 1 + first % 9, 0);
                String text = "name " + second / 9 + " version " + (1 + second % 9)
                    + " after name " + first / 9 + " version " + (1 + first % 9);
                Check.due(text, x.addPackage(second / 9, 1 + second % 9, 15), first == second ? BAD : 1);
            }
        }
    }

    // "a set of features (numbers 0 to 3) that it offers", "fits a feature iff it offers it" (of needs and of clashes)
    private static void eachHasASetOfFeatures() {
        for (int features = 0; features < 16; features++) {
            for (int feature = 0; feature < 4; feature++) {
                boolean offers = (features & (1 << feature)) != 0;
                String text = "feature " + feature + " of the set " + features;
                UpgradeOptimiser x = new UpgradeOptimiser();
                x.addPackage(0, 1, 0);
                x.addPackage(1, 1, features);
                x.need(0, true, feature, 9);
                Check.due(text + " is needed", x.right(3), offers);
                UpgradeOptimiser y = new UpgradeOptimiser();
                y.addPackage(0, 1, 0);
                y.addPackage(1, 9, features);
                y.clash(0, true, feature, 1);
                Check.due(text + " clashes", y.right(3), !offers);
            }
        }
    }

    // "it may have up to 2 needs and up to 2 clashes"
    private static void upToTwoNeedsAndTwoClashes() {
        UpgradeOptimiser x = new UpgradeOptimiser();
        Given.tenPackages(x);
        for (int round = 1; round <= 3; round++) {
            for (int p = 0; p < 10; p++) {
                String text = " " + round + " of package " + p;
                Check.due("need" + text, x.need(p, false, p % 5, 1), round <= 2 ? round : FULL);
                Check.due("clash" + text, x.clash(p, false, p % 5, 9), round <= 2 ? round : FULL);
            }
        }
        Check.due("all needs met, no clash touched: rightSets()", x.rightSets(), 243);
    }

    // "A PATTERN is either a name with a bound or a feature."
    private static void aPatternIsANameOrAFeature() {
        for (int number = 0; number < 4; number++) {
            for (int kind = 0; kind < 2; kind++) {
                boolean feature = kind == 1;
                UpgradeOptimiser x = new UpgradeOptimiser();
                x.addPackage(4, 1, 0);
                x.addPackage(number, 1, 15 ^ 1 << number);
                x.addPackage((number + 1) % 4, 1, 1 << number);
                x.addPackage((number + 2) % 4, 1, 0);
                x.need(0, feature, number, 1);
                x.need(3, feature, (number + 1) % 4, 2);
                x.orNeed(3, feature, number, 1);
                String text = (feature ? "feature " : "name ") + number;
                Check.due(text + ", needed: the name", x.right(1 | 2), !feature);
                Check.due(text + ", needed: the feature", x.right(1 | 4), feature);
                Check.due(text + ", second pattern: the feature", x.right(8 | 4), feature);
                UpgradeOptimiser y = new UpgradeOptimiser();
                y.addPackage(4, 1, 0);
                y.addPackage(number, 1, 15 ^ 1 << number);
                y.addPackage((number + 1) % 4, 1, 1 << number);
                y.clash(0, feature, number, 1);
                Check.due(text + ", clashing: the name", y.right(1 | 2), feature);
                Check.due(text + ", clashing: the feature", y.right(1 | 4), !feature);
            }
        }
    }

    // "A need is a list of one or two patterns."
    private static void aNeedHasOneOrTwoPatterns() {
        UpgradeOptimiser x = new UpgradeOptimiser();
        for (int name = 0; name < 4; name++) {
            x.addPackage(name, 1, 0);
        }
        x.need(0, false, 1, 1);
        Check.due("one pattern: nothing else meets it", x.right(1 | 4 | 8), false);
        Check.due("one pattern: it is met", x.right(1 | 2), true);
        Check.due("a second pattern", x.orNeed(0, false, 2, 1), 2);
        Check.due("two patterns: the second", x.right(1 | 4), true);
        Check.due("a third pattern", x.orNeed(0, false, 3, 1), FULL);
        Check.due("two patterns: the refused third", x.right(1 | 8), false);
    }

    // "it is MET iff the set has a package that fits one of its patterns"
    private static void aNeedIsMetByOneOfItsPatterns() {
        UpgradeOptimiser x = new UpgradeOptimiser();
        x.addPackage(0, 1, 0);
        x.addPackage(1, 3, 0);
        x.addPackage(2, 1, 8);
        x.addPackage(1, 4, 8);
        x.addPackage(3, 9, 7);
        x.need(0, false, 1, 3);
        x.orNeed(0, true, 3, 0);
        Check.due("no other package in the set", x.right(1), false);
        Check.due("one that fits neither pattern", x.right(1 | 16), false);
        Check.due("one that fits the first", x.right(1 | 2), true);
        Check.due("one that fits the second", x.right(1 | 4), true);
        Check.due("one that fits both", x.right(1 | 8), true);
        Check.due("one for each", x.right(1 | 2 | 4), true);
        Check.due("one that fits and one that doesn't", x.right(1 | 4 | 16), true);
        Check.due("the need of a package outside the set", x.right(16), true);
    }

    // "fits a name with bound m iff it has the name and its version is at least m"
    private static void aNameIsNeededAtLeastAtItsBound() {
        for (int bound = 1; bound <= 9; bound++) {
            for (int version = 1; version <= 9; version++) {
                UpgradeOptimiser x = new UpgradeOptimiser();
                x.addPackage(0, 5, 0);
                x.addPackage(4, version, 0);
                x.addPackage(3, 9, 0);
                x.need(0, false, 4, bound);
                String text = "version " + version + " for the bound " + bound;
                Check.due(text, x.right(1 | 2), version >= bound);
                Check.due(text + " beside another name", x.right(1 | 2 | 4), version >= bound);
                Check.due("another name for the bound " + bound, x.right(1 | 4), false);
            }
        }
    }

    // "(A package may meet its own need.)"
    private static void aPackageMayMeetItsOwnNeed() {
        for (int version = 1; version <= 9; version++) {
            UpgradeOptimiser x = new UpgradeOptimiser();
            x.addPackage(0, version, 0);
            x.need(0, false, 0, 5);
            Check.due("own version " + version + " for the bound 5", x.right(1), version >= 5);
        }
        for (int feature = 0; feature < 4; feature++) {
            UpgradeOptimiser x = new UpgradeOptimiser();
            x.addPackage(0, 1, 4);
            x.need(0, true, feature, 0);
            Check.due("feature " + feature + " where it offers feature 2", x.right(1), feature == 2);
            x.orNeed(0, false, 0, 1);
            Check.due("by its second pattern", x.right(1), true);
        }
    }

    // "it is TOUCHED iff the set has a package, other than the one that has the clash, that fits the pattern"
    private static void aClashIsTouchedByAnotherPackage() {
        UpgradeOptimiser x = new UpgradeOptimiser();
        x.addPackage(0, 1, 1);
        x.addPackage(1, 1, 1);
        x.addPackage(2, 1, 0);
        x.clash(0, true, 0, 0);
        x.clash(0, false, 0, 9);
        Check.due("own feature and own name", x.right(1), true);
        Check.due("another with the feature", x.right(1 | 2), false);
        Check.due("another without the feature", x.right(1 | 4), true);
        Check.due("the clash of a package outside the set", x.right(2 | 4), true);
        x.clash(1, true, 0, 0);
        Check.due("both have the clash and the feature", x.right(1 | 2), false);
        Check.due("one of the two", x.right(2), true);
    }

    // "here a package fits a name with bound m iff it has the name and its version is at most m"
    private static void aNameClashesAtMostAtItsBound() {
        for (int bound = 1; bound <= 9; bound++) {
            for (int version = 1; version <= 9; version++) {
                UpgradeOptimiser x = new UpgradeOptimiser();
                x.addPackage(0, 5, 0);
                x.addPackage(4, version, 0);
                x.addPackage(3, 1, 0);
                x.clash(0, false, 4, bound);
                String text = "version " + version + " for the bound " + bound;
                Check.due(text, x.right(1 | 2), version > bound);
                Check.due(text + " beside another name", x.right(1 | 2 | 4), version > bound);
                Check.due("another name for the bound " + bound, x.right(1 | 4), true);
            }
        }
    }

    // "There are up to 4 wishes: a wish wants a name to be there or wants it to be away."
    private static void thereAreUpToFourWishes() {
        for (int odd = 0; odd < 5; odd++) {
            UpgradeOptimiser x = new UpgradeOptimiser();
            for (int name = 0; name < 5; name++) {
                x.addPackage(name, 1, 0);
            }
            for (int name = 0; name < 5; name++) {
                Check.due("wish " + (name + 1), x.wish(name, name == odd), name < 4 ? name + 1 : FULL);
            }
            for (int set = 0; set < 32; set++) {
                boolean kept = (set & 15) == (odd < 4 ? 1 << odd : 0);
                Check.due("set " + set + " where name " + odd + " is to be there", x.right(set), kept);
            }
        }
    }

    // "no two of its packages have the same name"
    private static void noTwoPackagesOfTheSameName() {
        UpgradeOptimiser x = new UpgradeOptimiser();
        Check.due("no package at all", x.right(0), true);
        for (int version = 1; version <= 9; version++) {
            x.addPackage(4, version, 0);
        }
        x.addPackage(0, 9, 0);
        for (int set = 0; set < 32; set++) {
            Check.due("the set " + set + " of one name", x.right(set), Integer.bitCount(set) <= 1);
        }
        Check.due("the first and the last of a name", x.right(1 | 256), false);
        Check.due("all nine of a name", x.right(511), false);
        Check.due("all ten packages", x.right(1023), false);
        Check.due("one of nine and another name", x.right(256 | 512), true);
    }

    // "every need of each of its packages is met in it"
    private static void everyNeedOfEachPackage() {
        for (int p = 0; p < 10; p++) {
            for (int unmet = 1; unmet <= 2; unmet++) {
                UpgradeOptimiser x = new UpgradeOptimiser();
                Given.tenPackages(x);
                x.need(p, false, unmet == 1 ? (p + 1) % 5 : p % 5, 1);
                x.need(p, false, unmet == 2 ? (p + 1) % 5 : p % 5, 1);
                String text = "need " + unmet + " of package " + p;
                Check.due(text + ", not met", x.right(1 << p), false);
                Check.due(text + ", met", x.right(1 << p | 1 << (p + 1) % 10), true);
                Check.due(text + ", not in the set", x.right(1 << (p + 1) % 10), true);
            }
        }
    }

    // "no clash of any of its packages is touched in it"
    private static void noClashOfAnyPackage() {
        for (int p = 0; p < 10; p++) {
            for (int touched = 1; touched <= 2; touched++) {
                UpgradeOptimiser x = new UpgradeOptimiser();
                Given.tenPackages(x);
                x.clash(p, false, touched == 1 ? (p + 1) % 5 : p % 5, 9);
                x.clash(p, false, touched == 2 ? (p + 1) % 5 : p % 5, 9);
                String text = "clash " + touched + " of package " + p;
                Check.due(text + ", not touched", x.right(1 << p), true);
                Check.due(text + ", touched", x.right(1 << p | 1 << (p + 1) % 10), false);
                Check.due(text + ", touched by an older one", x.right(1 << p | 1 << (p + 6) % 10), false);
                Check.due(text + ", beside another name", x.right(1 << p | 1 << (p + 2) % 10), true);
            }
        }
    }

    // "for every wish there is, or is not, a package of the name in it"
    private static void everyWish() {
        UpgradeOptimiser x = new UpgradeOptimiser();
        x.wish(2, false);
        Check.due("a name that no package bears, away", x.right(0), true);
        x.addPackage(2, 1, 0);
        x.addPackage(2, 9, 0);
        Check.due("no version of a name that is to be away: 1", x.right(1), false);
        Check.due("no version of a name that is to be away: 9", x.right(2), false);
        x.wish(2, false);
        Check.due("the same wish twice", x.right(0), true);
        x.wish(2, true);
        Check.due("there and away: without the name", x.right(0), false);
        Check.due("there and away: with the name", x.right(2), false);
        x.dropWishes();
        x.wish(2, true);
        Check.due("there: version 1", x.right(1), true);
        Check.due("there: version 9", x.right(2), true);
        Check.due("there: without the name", x.right(0), false);
        Check.due("there: twice is still not right", x.right(3), false);
    }
}
