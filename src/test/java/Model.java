import java.util.ArrayList;
import java.util.HashSet;
import java.util.List;
import java.util.Set;
import java.util.function.BiPredicate;

/** The document's words over lists and sets, written apart from the class, to hold its answers against. */
final class Model {
    private record Pattern(boolean feature, int x, int bound) {
        boolean fits(Package p, BiPredicate<Integer, Integer> reaches) {
            return feature ? p.features.contains(x) : p.name == x && reaches.test(p.version, bound);
        }
    }

    private static final class Package {
        int name;
        int version;
        final Set<Integer> features = new HashSet<>();
        final List<List<Pattern>> needs = new ArrayList<>();
        final List<Pattern> clashes = new ArrayList<>();
    }

    private record Wish(int name, boolean there) {
    }

    private final List<Package> packages = new ArrayList<>();
    private final List<Wish> wishes = new ArrayList<>();
    private int installed = 0;

    private static boolean between(int low, int value, int high) {
        return low <= value && value <= high;
    }

    int addPackage(int name, int version, int features) {
        if (packages.size() == 10) {
            return -2;
        }
        boolean fine = between(0, name, 4) && between(1, version, 9) && between(0, features, 15);
        if (!fine || packages.stream().anyMatch(p -> p.name == name && p.version == version)) {
            return -1;
        }
        Package made = new Package();
        made.name = name;
        made.version = version;
        for (int f = 0; f < 4; f++) {
            if ((features & (1 << f)) != 0) {
                made.features.add(f);
            }
        }
        packages.add(made);
        return packages.size() - 1;
    }

    private boolean bad(int p, boolean feature, int x, int bound) {
        boolean fine = feature ? between(0, x, 3) : between(0, x, 4) && between(1, bound, 9);
        return !fine || !between(0, p, packages.size() - 1);
    }

    int need(int p, boolean feature, int x, int bound) {
        if (bad(p, feature, x, bound)) {
            return -1;
        }
        List<List<Pattern>> needs = packages.get(p).needs;
        if (needs.size() == 2) {
            return -2;
        }
        needs.add(new ArrayList<>(List.of(new Pattern(feature, x, bound))));
        return needs.size();
    }

    int orNeed(int p, boolean feature, int x, int bound) {
        if (bad(p, feature, x, bound)) {
            return -1;
        }
        List<List<Pattern>> needs = packages.get(p).needs;
        if (needs.isEmpty()) {
            return -3;
        }
        List<Pattern> latest = needs.get(needs.size() - 1);
        if (latest.size() == 2) {
            return -2;
        }
        latest.add(new Pattern(feature, x, bound));
        return 2;
    }

    int clash(int p, boolean feature, int x, int bound) {
        if (bad(p, feature, x, bound)) {
            return -1;
        }
        List<Pattern> clashes = packages.get(p).clashes;
        if (clashes.size() == 2) {
            return -2;
        }
        clashes.add(new Pattern(feature, x, bound));
        return clashes.size();
    }

    boolean install(int set) {
        if (!between(0, set, (1 << packages.size()) - 1)) {
            return false;
        }
        installed = set;
        return true;
    }

    int wish(int name, boolean there) {
        if (!between(0, name, 4)) {
            return -1;
        }
        if (wishes.size() == 4) {
            return -2;
        }
        wishes.add(new Wish(name, there));
        return wishes.size();
    }

    int dropWishes() {
        int dropped = wishes.size();
        wishes.clear();
        return dropped;
    }

    private List<Package> members(int set) {
        List<Package> members = new ArrayList<>();
        for (int p = 0; p < packages.size(); p++) {
            if ((set & (1 << p)) != 0) {
                members.add(packages.get(p));
            }
        }
        return members;
    }

    private static Set<Integer> names(List<Package> members) {
        Set<Integer> names = new HashSet<>();
        members.forEach(p -> names.add(p.name));
        return names;
    }

    boolean right(int set) {
        if (!between(0, set, (1 << packages.size()) - 1)) {
            return false;
        }
        List<Package> members = members(set);
        Set<Integer> names = names(members);
        return names.size() == members.size()
            && members.stream().allMatch(p -> p.needs.stream().allMatch(need -> need.stream().anyMatch(
                pattern -> members.stream().anyMatch(q -> pattern.fits(q, (version, bound) -> version >= bound)))))
            && members.stream().noneMatch(p -> p.clashes.stream().anyMatch(
                pattern -> members.stream().anyMatch(
                    q -> q != p && pattern.fits(q, (version, bound) -> version <= bound))))
            && wishes.stream().allMatch(wish -> names.contains(wish.name) == wish.there);
    }

    private int[] costOf(int set) {
        List<Package> members = members(set);
        Set<Integer> lost = names(members(installed));
        lost.removeAll(names(members));
        Set<Integer> stale = names(members);
        for (int name = 0; name < 5; name++) {
            int wanted = name;
            Package newest = null;
            for (Package p : packages) {
                if (p.name == wanted && (newest == null || p.version > newest.version)) {
                    newest = p;
                }
            }
            if (newest != null && members.contains(newest)) {
                stale.remove(wanted);
            }
        }
        return new int[] {lost.size(), Integer.bitCount(set ^ installed), stale.size()};
    }

    int best() {
        int best = -3;
        for (int set = (1 << packages.size()) - 1; set >= 0; set--) {
            if (right(set) && (best < 0 || java.util.Arrays.compare(costOf(set), costOf(best)) <= 0)) {
                best = set;
            }
        }
        return best;
    }

    int cost(int k) {
        if (!between(0, k, 2)) {
            return -1;
        }
        int best = best();
        return best == -3 ? -3 : costOf(best)[k];
    }

    int rightSets() {
        int count = 0;
        for (int set = 0; set < 1 << packages.size(); set++) {
            count += right(set) ? 1 : 0;
        }
        return count;
    }
}
