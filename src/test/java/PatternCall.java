/** A call of the form that need, orNeed and clash share. */
interface PatternCall {
    int on(UpgradeOptimiser x, int p, boolean feature, int number, int bound);

    /**
     * "there is no package p, or x outside 0..4 for a name and 0..3 for a feature, or for a name the bound
     * outside 1..9: BAD"
     */
    static void badAnswers(String name, PatternCall call) {
        noSuchPackage(name, call);
        for (int p : new int[] {0, 1, 2, 3}) {
            badPattern(name, call, Refusal.after(Given::some), p);
        }
        badPattern(name, call, Refusal.after(Given::everything), 9);
    }

    private static void noSuchPackage(String name, PatternCall call) {
        Refusal nothing = Refusal.after(Given::nothing);
        Refusal some = Refusal.after(Given::some);
        Refusal everything = Refusal.after(Given::everything);
        int bad = UpgradeOptimiser.BAD;
        nothing.due(name + "(0, ..) without packages", x -> call.on(x, 0, false, 0, 1), bad);
        for (int p : Numbers.outside(0, 3)) {
            some.due(name + "(" + p + ", ..) of four packages", x -> call.on(x, p, false, 0, 1), bad);
        }
        for (int p : Numbers.outside(0, 9)) {
            nothing.due(name + "(" + p + ", ..) of no packages", x -> call.on(x, p, true, 0, 1), bad);
            everything.due(name + "(" + p + ", ..) of ten packages", x -> call.on(x, p, true, 0, 1), bad);
        }
    }

    private static void badPattern(String name, PatternCall call, Refusal refusal, int p) {
        String text = name + "(" + p + ", ";
        int bad = UpgradeOptimiser.BAD;
        for (int number : Numbers.outside(0, 4)) {
            refusal.due(text + "false, " + number + ", 1)", x -> call.on(x, p, false, number, 1), bad);
        }
        for (int number : Numbers.outside(0, 3)) {
            refusal.due(text + "true, " + number + ", 1)", x -> call.on(x, p, true, number, 1), bad);
        }
        for (int bound : Numbers.outside(1, 9)) {
            refusal.due(text + "false, 4, " + bound + ")", x -> call.on(x, p, false, 4, bound), bad);
        }
    }
}
