/** The best upgrade of a set of installed packages. */
public final class UpgradeOptimiser {
    public static final int BAD = -1;
    public static final int FULL = -2;
    public static final int NONE = -3;

    private static final int MAX_PACKAGES = 10;
    private static final int NAMES = 5;
    private static final int MAX_VERSION = 9;
    private static final int FEATURES = 4;
    private static final int FEATURE_SETS = 16;
    private static final int MAX_NEEDS = 2;
    private static final int MAX_PATTERNS = 2;
    private static final int MAX_CLASHES = 2;
    private static final int MAX_WISHES = 4;
    private static final int COST_PARTS = 3;
    private static final int ALL_NEEDS = 20;
    private static final int ALL_NEED_PATTERNS = 40;
    private static final int ALL_CLASHES = 20;

    // Above the greatest part of a cost, so that a weight orders costs as their parts in turn do.
    private static final int COST_BASE = 16;

    private final int[] nameOf = new int[MAX_PACKAGES];
    private final int[] versionOf = new int[MAX_PACKAGES];
    private final int[] featuresOf = new int[MAX_PACKAGES];
    private final int[] needsOf = new int[MAX_PACKAGES];
    private final int[] clashesOf = new int[MAX_PACKAGES];

    // Need n of package p is need p * MAX_NEEDS + n; its patterns start at that number * MAX_PATTERNS.
    private final int[] patternsOf = new int[ALL_NEEDS];
    private final boolean[] needsFeature = new boolean[ALL_NEED_PATTERNS];
    private final int[] needX = new int[ALL_NEED_PATTERNS];
    private final int[] needBound = new int[ALL_NEED_PATTERNS];

    // Clash c of package p is clash p * MAX_CLASHES + c.
    private final boolean[] clashesFeature = new boolean[ALL_CLASHES];
    private final int[] clashX = new int[ALL_CLASHES];
    private final int[] clashBound = new int[ALL_CLASHES];

    private final int[] wishedName = new int[MAX_WISHES];
    private final boolean[] wishedThere = new boolean[MAX_WISHES];

    private int packages;
    private int wishes;
    private int installed;

    public UpgradeOptimiser() {
        packages = 0;
        wishes = 0;
        installed = 0;
    }

    public int addPackage(int name, int version, int features) {
        if (packages >= MAX_PACKAGES) {
            return FULL;
        }
        if (!isName(name) || !isVersion(version) || features < 0 || features >= FEATURE_SETS) {
            return BAD;
        }
        if (isKnown(name, version)) {
            return BAD;
        }
        int p = packages;
        nameOf[p] = name;
        versionOf[p] = version;
        featuresOf[p] = features;
        packages = p + 1;
        return p;
    }

    public int need(int p, boolean feature, int x, int bound) {
        if (!isPackage(p) || !isPattern(feature, x, bound)) {
            return BAD;
        }
        int count = needsOf[p];
        if (count >= MAX_NEEDS) {
            return FULL;
        }
        int need = p * MAX_NEEDS + count;
        setNeedPattern(need * MAX_PATTERNS, feature, x, bound);
        patternsOf[need] = 1;
        needsOf[p] = count + 1;
        return count + 1;
    }

    public int orNeed(int p, boolean feature, int x, int bound) {
        if (!isPackage(p) || !isPattern(feature, x, bound)) {
            return BAD;
        }
        if (needsOf[p] == 0) {
            return NONE;
        }
        int need = p * MAX_NEEDS + needsOf[p] - 1;
        if (patternsOf[need] >= MAX_PATTERNS) {
            return FULL;
        }
        setNeedPattern(need * MAX_PATTERNS + 1, feature, x, bound);
        patternsOf[need] = MAX_PATTERNS;
        return MAX_PATTERNS;
    }

    public int clash(int p, boolean feature, int x, int bound) {
        if (!isPackage(p) || !isPattern(feature, x, bound)) {
            return BAD;
        }
        int count = clashesOf[p];
        if (count >= MAX_CLASHES) {
            return FULL;
        }
        int clash = p * MAX_CLASHES + count;
        clashesFeature[clash] = feature;
        clashX[clash] = x;
        clashBound[clash] = bound;
        clashesOf[p] = count + 1;
        return count + 1;
    }

    public boolean install(int set) {
        if (!isSet(set)) {
            return false;
        }
        installed = set;
        return true;
    }

    public int wish(int name, boolean there) {
        if (!isName(name)) {
            return BAD;
        }
        if (wishes >= MAX_WISHES) {
            return FULL;
        }
        wishedName[wishes] = name;
        wishedThere[wishes] = there;
        wishes++;
        return wishes;
    }

    public int dropWishes() {
        int dropped = wishes;
        wishes = 0;
        return dropped;
    }

    public boolean right(int set) {
        return isSet(set) && isRight(set);
    }

    public int best() {
        int best = NONE;
        int least = 0;
        int sets = 1 << packages;
        // Upwards and with a strict comparison: of several sets of least cost the smallest number stays.
        for (int set = 0; set < sets; set++) {
            if (isRight(set)) {
                int weight = weightOf(set);
                if (best == NONE || weight < least) {
                    best = set;
                    least = weight;
                }
            }
        }
        return best;
    }

    public int cost(int k) {
        if (k < 0 || k >= COST_PARTS) {
            return BAD;
        }
        int set = best();
        if (set == NONE) {
            return NONE;
        }
        if (k == 0) {
            return lostNames(set);
        }
        return k == 1 ? changedPackages(set) : staleNames(set);
    }

    public int rightSets() {
        int count = 0;
        int sets = 1 << packages;
        for (int set = 0; set < sets; set++) {
            if (isRight(set)) {
                count++;
            }
        }
        return count;
    }

    private static boolean isName(int name) {
        return name >= 0 && name < NAMES;
    }

    private static boolean isVersion(int version) {
        return version >= 1 && version <= MAX_VERSION;
    }

    private static boolean isPattern(boolean feature, int x, int bound) {
        if (feature) {
            return x >= 0 && x < FEATURES;
        }
        return isName(x) && isVersion(bound);
    }

    private static boolean has(int set, int p) {
        return (set >> p & 1) == 1;
    }

    private boolean isPackage(int p) {
        return p >= 0 && p < packages;
    }

    private boolean isSet(int set) {
        return set >= 0 && set < 1 << packages;
    }

    private boolean isKnown(int name, int version) {
        for (int p = 0; p < packages; p++) {
            if (nameOf[p] == name && versionOf[p] == version) {
                return true;
            }
        }
        return false;
    }

    private void setNeedPattern(int pattern, boolean feature, int x, int bound) {
        needsFeature[pattern] = feature;
        needX[pattern] = x;
        needBound[pattern] = bound;
    }

    private boolean isRight(int set) {
        return namesDiffer(set) && needsAreMet(set) && clashesAreUntouched(set) && wishesAreKept(set);
    }

    private boolean namesDiffer(int set) {
        int seen = 0;
        for (int p = 0; p < packages; p++) {
            if (has(set, p)) {
                if (has(seen, nameOf[p])) {
                    return false;
                }
                seen |= 1 << nameOf[p];
            }
        }
        return true;
    }

    private boolean needsAreMet(int set) {
        for (int p = 0; p < packages; p++) {
            if (has(set, p)) {
                for (int n = 0; n < needsOf[p]; n++) {
                    if (!isMet(p * MAX_NEEDS + n, set)) {
                        return false;
                    }
                }
            }
        }
        return true;
    }

    private boolean isMet(int need, int set) {
        for (int q = 0; q < packages; q++) {
            if (has(set, q)) {
                for (int k = 0; k < patternsOf[need]; k++) {
                    if (fitsNeed(q, need * MAX_PATTERNS + k)) {
                        return true;
                    }
                }
            }
        }
        return false;
    }

    private boolean fitsNeed(int q, int pattern) {
        int x = needX[pattern];
        if (needsFeature[pattern]) {
            return (featuresOf[q] >> x & 1) == 1;
        }
        return nameOf[q] == x && versionOf[q] >= needBound[pattern];
    }

    private boolean clashesAreUntouched(int set) {
        for (int p = 0; p < packages; p++) {
            if (has(set, p)) {
                // A package never touches its own clash.
                int others = set & ~(1 << p);
                for (int c = 0; c < clashesOf[p]; c++) {
                    if (isTouched(p * MAX_CLASHES + c, others)) {
                        return false;
                    }
                }
            }
        }
        return true;
    }

    private boolean isTouched(int clash, int others) {
        for (int q = 0; q < packages; q++) {
            if (has(others, q) && fitsClash(q, clash)) {
                return true;
            }
        }
        return false;
    }

    private boolean fitsClash(int q, int clash) {
        int x = clashX[clash];
        if (clashesFeature[clash]) {
            return (featuresOf[q] >> x & 1) == 1;
        }
        return nameOf[q] == x && versionOf[q] <= clashBound[clash];
    }

    private boolean wishesAreKept(int set) {
        for (int w = 0; w < wishes; w++) {
            if (hasName(set, wishedName[w]) != wishedThere[w]) {
                return false;
            }
        }
        return true;
    }

    private boolean hasName(int set, int name) {
        for (int p = 0; p < packages; p++) {
            if (has(set, p) && nameOf[p] == name) {
                return true;
            }
        }
        return false;
    }

    private int weightOf(int set) {
        int lost = lostNames(set);
        int changed = changedPackages(set);
        int stale = staleNames(set);
        return (lost * COST_BASE + changed) * COST_BASE + stale;
    }

    private int lostNames(int set) {
        int count = 0;
        for (int name = 0; name < NAMES; name++) {
            if (hasName(installed, name) && !hasName(set, name)) {
                count++;
            }
        }
        return count;
    }

    private int changedPackages(int set) {
        int changed = set ^ installed;
        int count = 0;
        for (int p = 0; p < packages; p++) {
            if (has(changed, p)) {
                count++;
            }
        }
        return count;
    }

    private int staleNames(int set) {
        int count = 0;
        for (int name = 0; name < NAMES; name++) {
            if (hasName(set, name)) {
                int newest = newestOf(name);
                if (!has(set, newest)) {
                    count++;
                }
            }
        }
        return count;
    }

    // Asked only of a name that a known package bears, so the answer is always a package.
    private int newestOf(int name) {
        int newest = 0;
        int greatest = 0;
        for (int p = 0; p < packages; p++) {
            if (nameOf[p] == name && versionOf[p] > greatest) {
                newest = p;
                greatest = versionOf[p];
            }
        }
        return newest;
    }
}
