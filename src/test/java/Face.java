import java.util.List;

/**
 * Every call of the face that takes numbers, with the range of each of its parameters and what is thrown
 * outside of it. The parameters stand in the order in which the document lists their exceptions.
 */
final class Face {
    private static final Class<? extends RuntimeException> ARGUMENT = IllegalArgumentException.class;
    private static final Class<? extends RuntimeException> INDEX = IndexOutOfBoundsException.class;
    private static final Limit ANY = new Limit(null, Integer.MIN_VALUE, Integer.MAX_VALUE);
    private static final Limit LENGTH = within(1, 1000);
    private static final Limit AT_ONCE = within(1, 200);
    private static final Limit NOT_NEGATIVE = within(0, Integer.MAX_VALUE);
    private static final Limit SLOT = within(0, 1);

    private Face() {
    }

    /** A call with its parameters. */
    interface Make {
        double with(ArmDuel x, int[] p);
    }

    /** The range of a parameter; nothing is thrown for it if thrown is null. */
    record Limit(Class<? extends RuntimeException> thrown, int least, int most) {
        boolean holds(int value) {
            return value >= least && value <= most;
        }

        /** The ends of the range, their neighbours outside, and what lies farthest off. */
        int[] edges() {
            if (thrown == null) {
                return new int[] {Integer.MIN_VALUE, -1, 0, 3, Integer.MAX_VALUE};
            }
            if (most == Integer.MAX_VALUE) {
                return new int[] {Integer.MIN_VALUE, least - 1, least, most};
            }
            return new int[] {Integer.MIN_VALUE, least - 1, least, most, most + 1, Integer.MAX_VALUE};
        }
    }

    /** A call of the face; one that changes something if it is accepted is told as such. */
    record Call(String name, boolean isChange, Make make, Limit... limits) {
        /** What the first parameter that is out of its range lets the call throw; null if none is. */
        Class<? extends RuntimeException> due(int[] p) {
            for (int i = 0; i < limits.length; i++) {
                if (!counts(i, p) || limits[i].holds(p[i])) {
                    continue;
                }
                return limits[i].thrown();
            }
            return null;
        }

        /** The rule of setMaster counts for the kind 2 alone. */
        private boolean counts(int i, int[] p) {
            return !(name.equals("setMaster") && i == 1) || p[0] == 2;
        }
    }

    private static Limit within(int least, int most) {
        return new Limit(ARGUMENT, least, most);
    }

    private static Call asks(String name, Make make, Limit... limits) {
        return new Call(name, false, make, limits);
    }

    private static Call changes(String name, Make make, Limit... limits) {
        return new Call(name, true, make, limits);
    }

    /** The calls for a drive of so many rules and cylinders, of which so many rounds have been made. */
    static List<Call> calls(int rules, int cylinders, int rounds) {
        Limit rule = new Limit(INDEX, 0, rules - 1);
        Limit arm = new Limit(INDEX, -1, rules - 1);
        Limit cylinder = within(0, cylinders - 1);
        return List.of(
                asks("setting", (x, p) -> x.setting(p[0]), within(0, 14)),
                asks("rule", (x, p) -> x.rule(p[0], p[1]), rule, within(0, 5)),
                asks("ask", (x, p) -> x.ask(p[0]), ANY),
                changes("request", (x, p) -> x.request(p[0]), cylinder),
                changes("setFoe", (x, p) -> x.setFoe(p[0]), within(0, 5)),
                changes("setMaster", (x, p) -> x.setMaster(p[0], p[1]), within(0, 2), rule),
                changes("setEta", (x, p) -> x.setEta(p[0]), within(1, 500)),
                changes("setBudget", (x, p) -> x.setBudget(p[0]), within(-1, 999)),
                changes("setBound", (x, p) -> x.setBound(p[0], p[1]), within(0, 99999), within(0, 9999)),
                changes("addAsk", (x, p) -> x.addAsk(p[0]), cylinder),
                asks("arm", (x, p) -> x.arm(p[0], p[1]), arm, within(0, 6)),
                asks("waiting", (x, p) -> x.waiting(p[0], p[1], p[2]), arm, ANY, within(0, 1)),
                asks("wouldServe", (x, p) -> x.wouldServe(p[0], p[1]), arm, rule),
                asks("optimum", (x, p) -> x.optimum(p[0]), within(0, 8)),
                asks("optimumAt", (x, p) -> x.optimumAt(p[0], p[1]), within(1, 8), ANY),
                asks("served", (x, p) -> x.served(p[0], p[1]), NOT_NEGATIVE, within(0, 4)),
                asks("regret", (x, p) -> x.regret(p[0]), within(0, 4)),
                asks("regretTo", (x, p) -> x.regretTo(p[0]), rule),
                asks("swapCost", (x, p) -> x.swapCost(p[0], p[1]), rule, rule),
                asks("bestSwap", (x, p) -> x.bestSwap(p[0]), rule),
                asks("rival", (x, p) -> x.rival(p[0]), within(0, 5)),
                asks("cost", (x, p) -> x.cost(p[0], p[1]), arm, ANY),
                asks("taken", (x, p) -> x.taken(p[0]), ANY),
                asks("bestPair", (x, p) -> x.bestPair(p[0]), within(0, 3)),
                asks("cheaper", (x, p) -> x.cheaper(p[0], p[1]), rule, rule),
                asks("leads", (x, p) -> x.leads(p[0]), rule),
                asks("streak", (x, p) -> x.streak(p[0]), rule),
                asks("dearest", (x, p) -> x.dearest(p[0], p[1]), rule, LENGTH),
                asks("windowRegret", (x, p) -> x.windowRegret(p[0], p[1]), NOT_NEGATIVE, LENGTH),
                asks("windowBest", (x, p) -> x.windowBest(p[0], p[1]), NOT_NEGATIVE, LENGTH),
                asks("worstWindow", (x, p) -> x.worstWindow(p[0]), LENGTH),
                asks("meanCost", (x, p) -> x.meanCost(p[0]), arm),
                asks("share", (x, p) -> x.share(p[0]), rule),
                changes("run", (x, p) -> x.run(p[0]), within(1, Math.min(200, 1000 - rounds))),
                changes("runToBreach", (x, p) -> x.runToBreach(p[0]), AT_ONCE),
                asks("hurtOf", (x, p) -> x.hurtOf(p[0]), cylinder),
                asks("regretIn", (x, p) -> x.regretIn(p[0]), AT_ONCE),
                asks("costIn", (x, p) -> x.costIn(p[0], p[1]), arm, AT_ONCE),
                asks("regretKeeping", (x, p) -> x.regretKeeping(p[0], p[1]), rule, AT_ONCE),
                asks("regretAgainst", (x, p) -> x.regretAgainst(p[0], p[1]), within(0, 5), AT_ONCE),
                asks("rivalIn", (x, p) -> x.rivalIn(p[0]), AT_ONCE),
                asks("budgetFor", (x, p) -> x.budgetFor(p[0]), ANY),
                changes("saveSnapshot", (x, p) -> x.saveSnapshot(p[0]), SLOT),
                changes("restoreSnapshot", (x, p) -> x.restoreSnapshot(p[0]), SLOT));
    }

    /** The calls without a number, and the one that takes a long. */
    static List<String> others() {
        return List.of("append", "load", "loadError", "evenWeights", "nextRule", "rounds", "best", "swapRegret",
                "switches", "worst", "breachIn");
    }
}
