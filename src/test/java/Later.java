import java.util.function.Consumer;
import java.util.stream.IntStream;

/**
 * What later calls show of an object: the answers of many calls on fresh objects, each first given the same calls.
 * No object is used for more than 512 calls, as the document asks.
 */
final class Later {
    private static final int SETS = 1 << 10;
    private static final int SETS_AN_OBJECT = 256;
    private static final int PACKAGES = 10;
    private static final int NAMES = 5;

    private final Consumer<UpgradeOptimiser> before;
    private final IntStream.Builder answers = IntStream.builder();

    private Later(Consumer<UpgradeOptimiser> before) {
        this.before = before;
    }

    static int[] answers(Consumer<UpgradeOptimiser> before) {
        Later later = new Later(before);
        later.everySet(x -> { });
        later.everySet(UpgradeOptimiser::dropWishes);
        later.everySet(later::giveNeeds);
        later.everySet(later::widenNeeds);
        later.everySet(later::giveClashes);
        later.everySet(later::givePackages);
        later.everyWish();
        later.everyPackage();
        later.room();
        return later.answers.build().toArray();
    }

    private void note(int answer) {
        answers.add(answer);
    }

    private void note(boolean answer) {
        answers.add(answer ? 1 : 0);
    }

    private UpgradeOptimiser fresh() {
        UpgradeOptimiser x = new UpgradeOptimiser();
        before.accept(x);
        return x;
    }

    private void noteBest(UpgradeOptimiser x) {
        note(x.best());
        note(x.cost(0));
        note(x.cost(1));
        note(x.cost(2));
        note(x.rightSets());
    }

    private void everySet(Consumer<UpgradeOptimiser> change) {
        for (int from = 0; from < SETS; from += SETS_AN_OBJECT) {
            UpgradeOptimiser x = fresh();
            change.accept(x);
            for (int set = from; set < from + SETS_AN_OBJECT; set++) {
                note(x.right(set));
            }
        }
        UpgradeOptimiser x = fresh();
        change.accept(x);
        noteBest(x);
    }

    private void giveNeeds(UpgradeOptimiser x) {
        x.dropWishes();
        for (int p = 0; p < PACKAGES; p++) {
            note(x.need(p, true, p % 4, 0));
        }
    }

    private void widenNeeds(UpgradeOptimiser x) {
        x.dropWishes();
        for (int p = 0; p < PACKAGES; p++) {
            note(x.orNeed(p, false, p % NAMES, 1));
        }
    }

    private void giveClashes(UpgradeOptimiser x) {
        x.dropWishes();
        for (int p = 0; p < PACKAGES; p++) {
            note(x.clash(p, true, (p + 1) % 4, 0));
        }
    }

    private void givePackages(UpgradeOptimiser x) {
        x.dropWishes();
        for (int p = 0; p < PACKAGES; p++) {
            note(x.addPackage(p % NAMES, 9 - p / NAMES, p));
        }
    }

    private void everyWish() {
        UpgradeOptimiser x = fresh();
        note(x.dropWishes());
        for (int name = 0; name < NAMES; name++) {
            note(x.wish(name, true));
            noteBest(x);
            note(x.dropWishes());
            note(x.wish(name, false));
            noteBest(x);
            note(x.dropWishes());
        }
    }

    private void everyPackage() {
        for (int name = 0; name < NAMES; name++) {
            for (int version = 1; version <= 9; version++) {
                note(fresh().addPackage(name, version, 0));
            }
        }
    }

    private void room() {
        UpgradeOptimiser x = fresh();
        for (int wish = 0; wish < 5; wish++) {
            note(x.wish(wish, true));
        }
        note(x.dropWishes());
        for (int p = 0; p <= PACKAGES; p++) {
            for (int more = 0; more < 3; more++) {
                note(x.orNeed(p, true, 1, 0));
                note(x.need(p, true, 0, 0));
                note(x.clash(p, true, 0, 0));
            }
        }
        for (int p = 0; p <= PACKAGES; p++) {
            note(x.addPackage(p % NAMES, 5 + p / NAMES, 0));
        }
        noteBest(x);
        for (int packages = 0; packages <= PACKAGES; packages++) {
            note(x.install((1 << packages) - 1));
        }
    }
}
