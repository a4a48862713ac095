import java.util.stream.IntStream;

/** Numbers to call with: next to a range, far away, and those that a narrow store or a shift would take for others. */
final class Numbers {
    private Numbers() {
    }

    static int[] outside(int low, int high) {
        return IntStream.concat(around(low), around(high))
            .filter(number -> number < low || number > high).distinct().sorted().toArray();
    }

    static int[] ofAnyKind() {
        return around(0).distinct().sorted().toArray();
    }

    private static IntStream around(int number) {
        IntStream near = IntStream.of(number - 1, number, number + 1);
        IntStream far = IntStream.of(
            Integer.MIN_VALUE, Integer.MIN_VALUE + 1, Integer.MAX_VALUE - 1, Integer.MAX_VALUE);
        IntStream wrapped = IntStream.range(3, Integer.SIZE)
            .flatMap(bit -> IntStream.of(number + (1 << bit), number - (1 << bit)));
        return IntStream.concat(near, IntStream.concat(far, wrapped));
    }
}
