import java.util.Arrays;
import java.util.function.Consumer;
import java.util.function.Predicate;
import java.util.function.ToIntFunction;

/** Calls refused after some others: each is held to its answer and to changing nothing that later calls show. */
final class Refusal {
    private final Consumer<UpgradeOptimiser> before;
    private final int[] later;

    private Refusal(Consumer<UpgradeOptimiser> before) {
        this.before = before;
        this.later = Later.answers(before);
    }

    static Refusal after(Consumer<UpgradeOptimiser> before) {
        return new Refusal(before);
    }

    void due(String call, ToIntFunction<UpgradeOptimiser> refused, int want) {
        UpgradeOptimiser x = new UpgradeOptimiser();
        before.accept(x);
        Check.due(call, refused.applyAsInt(x), want);
        int[] laterStill = Later.answers(before.andThen(refused::applyAsInt));
        Check.due(call + ": later answers until one differs", Arrays.mismatch(laterStill, later), -1);
    }

    void dueFalse(String call, Predicate<UpgradeOptimiser> refused) {
        due(call, x -> refused.test(x) ? 1 : 0, 0);
    }
}
