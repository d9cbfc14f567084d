/** Promises 44 to 56: running and predictions. */
final class RunTests {
    private static final int NO_VALUE = ArmDuel.NO_VALUE;
    private static final String HARD = "drive 30 7; cost 3 2; rule fcfs; rule near; rule scan; rule band 4;"
            + " master draw; rival lead; mix 300 55; foe hurt; budget 6; ask 29; ask 3; ask 16; bound 40 9";

    /** A call that changes nothing. */
    interface Prediction {
        int make(ArmDuel x);
    }

    private RunTests() {
    }

    static void run() {
        promise44();
        promise45();
        promise45Limits();
        promise46();
        promise47();
        promise48();
        promise49();
        promise50();
        promise51();
        promise52();
        promise53();
        promise54();
        promise55();
        promise56();
        predictionsChangeNothing();
        behindTheLimit();
    }

    private static ArmDuel hard() {
        ArmDuel x = Check.drive(HARD, 20, 2, 11, 7, 28);
        x.run(3);
        x.request(14);
        return x;
    }

    private static void promise44() {
        ArmDuel x = new ArmDuel();
        Check.due("44 one", x.run(1), 1);
        Check.due("44 200", x.run(200), 201);
        Check.argument("44 rounds 0", () -> x.run(0));
        Check.argument("44 rounds -1", () -> x.run(-1));
        Check.argument("44 rounds 201", () -> x.run(201));
        Check.due("44 nothing changed", x.rounds(), 201);
        x.run(200);
        x.run(200);
        x.run(200);
        Check.due("44 998", x.run(197), 998);
        Check.argument("44 beyond 1000", () -> x.run(3));
        Check.due("44 no round was made", x.rounds(), 998);
        Check.due("44 1000", x.run(2), 1000);
        Check.argument("44 no more", () -> x.run(1));
        oneByOne();
    }

    private static void oneByOne() {
        ArmDuel x = hard();
        ArmDuel y = hard();
        x.run(40);
        for (int i = 0; i < 40; i++) {
            y.run(1);
        }
        Check.due("44 settings one by one", Check.settings(x), Check.settings(y));
        Check.due("44 regret one by one", Check.regret(x), Check.regret(y));
        Check.due("44 rule one by one", Check.rule(x, 2), Check.rule(y, 2));
    }

    private static void promise45() {
        // Behind the rounds the regret is 24, 27 and 45, as in CostTests.
        String drive = "drive 10 0; cost 2 3; rule fcfs; rule near; bound ";
        ArmDuel x = Check.drive(drive + "25 1", 9, 1, 8);
        Check.due("45 the second round", x.runToBreach(200), 2);
        Check.due("45 two were made", x.rounds(), 2);
        Check.due("45 the next one", x.runToBreach(1), 1);
        x.setBound(45, 0);
        Check.due("45 no breach", x.runToBreach(7), -1);
        Check.due("45 they are made all the same", x.rounds(), 10);
        Check.due("45 the last of most", Check.drive(drive + "26 1", 9, 1, 8).runToBreach(3), 3);
        Check.due("45 behind most", Check.drive(drive + "26 1", 9, 1, 8).runToBreach(2), -1);
        Check.argument("45 most 0", () -> x.runToBreach(0));
        Check.argument("45 most 201", () -> x.runToBreach(201));
        Check.argument("45 most -1", () -> x.runToBreach(-1));
        Check.due("45 nothing changed", x.rounds(), 10);
        Check.due("45 without a bound", new ArmDuel().runToBreach(200), -1);
    }

    private static void promise45Limits() {
        ArmDuel x = Check.drive("drive 10 0; cost 2 3; rule fcfs; rule near; bound 45 0", 9, 1, 8);
        for (int i = 0; i < 5; i++) {
            Check.due("45 " + i, x.runToBreach(i == 4 ? 198 : 200), -1);
        }
        Check.due("45 998 made", x.rounds(), 998);
        Check.due("45 beyond 1000 is in range", x.runToBreach(200), -1);
        Check.due("45 at most up to 1000", x.rounds(), 1000);
        Check.due("45 none left", x.runToBreach(1), -1);
        Check.argument("45 out of range all the same", () -> x.runToBreach(201));
        Check.due("45 still 1000", x.rounds(), 1000);
        ArmDuel y = Check.drive("drive 10 0; cost 2 3; rule fcfs; rule near; bound 45 0", 9, 1, 8);
        for (int i = 0; i < 5; i++) {
            y.run(i == 4 ? 199 : 200);
        }
        y.setBound(1, 1);
        Check.due("45 the last round of all", y.runToBreach(200), 1);
    }

    private static int hurtByHand(ArmDuel x, int cylinder) {
        x.saveSnapshot(1);
        x.request(cylinder);
        x.setFoe(0);
        x.run(1);
        int regret = x.regret(0);
        x.restoreSnapshot(1);
        return regret;
    }

    private static void promise46() {
        ArmDuel x = hard();
        for (int cylinder = 0; cylinder < 30; cylinder++) {
            Check.due("46 hurtOf(" + cylinder + ")", x.hurtOf(cylinder), hurtByHand(x, cylinder));
        }
        // fcfs pays 5 for the 9 in any case, near what lies nearer.
        ArmDuel y = Check.drive("drive 10 4; rule fcfs; rule near; foe far", 9);
        Check.due("46 at the arm", y.hurtOf(4), 5);
        Check.due("46 beside it", y.hurtOf(2), 3);
        Check.due("46 farther off", y.hurtOf(0), 1);
        Check.due("46 at the other one", y.hurtOf(9), 0);
        Check.argument("46 cylinder 10", () -> y.hurtOf(10));
        Check.argument("46 cylinder -1", () -> y.hurtOf(-1));
        for (int i = 0; i < 19; i++) {
            y.request(i % 10);
        }
        Check.due("46 20 wait", y.hurtOf(4), NO_VALUE);
        Check.argument("46 the exception comes first", () -> y.hurtOf(10));
    }

    private static void promise47() {
        ArmDuel x = hard();
        for (int round = 0; round < 5; round++) {
            int found = 0;
            int[] hurts = new int[30];
            for (int cylinder = 0; cylinder < 30; cylinder++) {
                hurts[cylinder] = x.hurtOf(cylinder);
                found = hurts[cylinder] > hurts[found] ? cylinder : found;
            }
            Check.due("47 in round " + x.rounds(), x.worst(), found);
            x.run(1);
        }
        ArmDuel y = Check.drive("drive 10 4; rule fcfs; rule near; foe none; budget 0", 9);
        Check.due("47 whatever foe and budget are", y.worst(), 4);
        Check.due("47 of several the lowest one", new ArmDuel().worst(), 0);
        for (int i = 0; i < 19; i++) {
            y.request(0);
        }
        Check.due("47 20 wait", y.worst(), -1);
    }

    /** Holds a prediction against what becomes of a drive that lives through the rounds. */
    private static void foretold(String what, Prediction prediction, int rounds, Prediction then) {
        ArmDuel x = hard();
        int got = prediction.make(x);
        x.run(rounds);
        Check.due(what, got, then.make(x));
    }

    private static void promise48() {
        for (int rounds : new int[] {1, 2, 9, 57, 200}) {
            foretold("48 " + rounds, y -> y.regretIn(rounds), rounds, y -> y.regret(0));
        }
        ArmDuel x = Check.drive("drive 10 0; cost 2 3; rule fcfs; rule near", 9, 1, 8);
        Check.due("48 one", x.regretIn(1), 24);
        Check.due("48 two", x.regretIn(2), 27);
        Check.due("48 200", x.regretIn(200), 45);
        Check.argument("48 rounds 0", () -> x.regretIn(0));
        Check.argument("48 rounds 201", () -> x.regretIn(201));
    }

    private static void promise49() {
        for (int arm = -1; arm < 4; arm++) {
            int of = arm;
            int before = hard().arm(arm, 3);
            foretold("49 arm " + arm, y -> y.costIn(of, 30), 30, y -> y.arm(of, 3) - before);
        }
        ArmDuel x = Check.drive("drive 10 0; cost 2 3; rule fcfs; rule near", 9, 1, 8);
        x.run(1);
        Check.due("49 the arm itself", x.costIn(-1, 1), 26);
        Check.due("49 near", x.costIn(1, 2), 28);
        Check.index("49 arm 2", () -> x.costIn(2, 1));
        Check.index("49 arm -2", () -> x.costIn(-2, 1));
        Check.argument("49 rounds 0", () -> x.costIn(0, 0));
        Check.argument("49 rounds 201", () -> x.costIn(-1, 201));
        Check.index("49 the index comes first", () -> x.costIn(2, 0));
    }

    private static void promise50() {
        String drive = "drive 10 0; cost 2 3; rule fcfs; rule near; bound ";
        ArmDuel x = Check.drive(drive + "25 1", 9, 1, 8);
        Check.due("50 two", x.breachIn(), 2);
        x.run(1);
        Check.due("50 one", x.breachIn(), 1);
        x.run(1);
        Check.due("50 a breach of before does not count", x.breachIn(), 1);
        x.setBound(45, 0);
        Check.due("50 never", x.breachIn(), -1);
        Check.due("50 no bound", Check.drive("drive 10 0; rule fcfs; rule near", 9, 1, 8).breachIn(), -1);
        ArmDuel hard = hard();
        hard.setBound(30, 20);
        int behind = hard.breachIn();
        Check.due("50 as it comes", hard.runToBreach(200), behind);
        theLastRoundForeseen();
    }

    /** near is spared one way of 9 in four of five rounds: 1413, 1422 and 1431 behind rounds 199 to 201. */
    private static void theLastRoundForeseen() {
        ArmDuel x = Check.drive("drive 10 1; rule fcfs; rule near; foe ends; bound 1413 0", 0, 9);
        Check.due("50 the 200th round", x.breachIn(), 200);
        Check.due("48 behind 200", x.regretIn(200), 1422);
        x.setBound(1422, 0);
        Check.due("50 not within 200", x.breachIn(), -1);
        x.run(1);
        Check.due("50 within 200 of the next ones", x.breachIn(), 200);
        Check.due("45 as foreseen", x.runToBreach(200), 200);
    }

    private static void promise51() {
        for (int rule = 0; rule < 4; rule++) {
            int kept = rule;
            ArmDuel x = hard();
            int got = x.regretKeeping(rule, 25);
            x.setMaster(2, kept);
            x.run(25);
            Check.due("51 rule " + rule, got, x.regret(0));
        }
        ArmDuel x = Check.drive("drive 10 0; cost 2 3; rule fcfs; rule near; master lead", 9, 1, 8);
        Check.due("51 fcfs", x.regretKeeping(0, 3), 45);
        Check.due("51 near", x.regretKeeping(1, 200), 0);
        Check.due("51 the master stays", x.setting(5), 1);
        Check.index("51 rule 2", () -> x.regretKeeping(2, 1));
        Check.index("51 rule -1", () -> x.regretKeeping(-1, 1));
        Check.argument("51 rounds 0", () -> x.regretKeeping(0, 0));
        Check.argument("51 rounds 201", () -> x.regretKeeping(0, 201));
        Check.index("51 the index comes first", () -> x.regretKeeping(2, 0));
    }

    private static void promise52() {
        for (int kind = 0; kind < 6; kind++) {
            ArmDuel x = hard();
            int got = x.regretAgainst(kind, 25);
            Check.due("52 the foe stays", x.setting(9), 5);
            x.setFoe(kind);
            x.run(25);
            Check.due("52 foe " + kind, got, x.regret(0));
        }
        ArmDuel x = hard();
        Check.argument("52 kind 6", () -> x.regretAgainst(6, 1));
        Check.argument("52 kind -1", () -> x.regretAgainst(-1, 1));
        Check.argument("52 rounds 0", () -> x.regretAgainst(0, 0));
        Check.argument("52 rounds 201", () -> x.regretAgainst(0, 201));
    }

    private static void promise53() {
        foretold("53 30", y -> y.rivalIn(30), 30, y -> y.arm(-1, 3) - y.rival(2));
        ArmDuel x = Check.drive("drive 10 0; cost 2 3; rule fcfs; rule near; rival keep 1", 9, 1, 8);
        Check.due("53 one", x.rivalIn(1), 24);
        x.run(2);
        Check.due("53 all that they cost counts", x.rivalIn(200), 45);
        Check.argument("53 rounds 0", () -> x.rivalIn(0));
        Check.argument("53 rounds 201", () -> x.rivalIn(201));
        ArmDuel none = new ArmDuel();
        Check.due("53 no rival", none.rivalIn(1), NO_VALUE);
        Check.argument("53 the exception comes first", () -> none.rivalIn(0));
    }

    private static void promise54() {
        ArmDuel x = Check.drive("drive 30 7; rule fcfs; rule near; foe far; budget 3; ask 8", 28, 1, 20, 14);
        int[] regrets = new int[21];
        for (int budget = 0; budget <= 20; budget++) {
            x.saveSnapshot(0);
            x.setFoe(5);
            x.setBudget(budget);
            x.run(20);
            regrets[budget] = x.regret(0);
            x.restoreSnapshot(0);
        }
        int greatest = regrets[0];
        for (int budget = 0; budget <= 20; budget++) {
            greatest = Math.max(greatest, regrets[budget]);
        }
        int answers = 0;
        for (int regret = regrets[0] - 1; regret <= greatest + 1; regret += 3) {
            int want = 0;
            while (want <= 20 && regrets[want] < regret) {
                want++;
            }
            Check.due("54 " + regret, x.budgetFor(regret), want > 20 ? -1 : want);
            answers |= want > 0 && want < 20 ? 1 : 0;
        }
        Check.due("54 some budgets lie between", answers, 1);
        Check.due("54 as great as it", x.budgetFor(regrets[0]), 0);
        Check.due("54 20 do not suffice", x.budgetFor(greatest + 1), -1);
        Check.due("54 any number", x.budgetFor(Integer.MAX_VALUE), -1);
        Check.due("54 any number below", x.budgetFor(Integer.MIN_VALUE), 0);
        Check.due("54 the budget stays", x.setting(13), 3);
        Check.due("54 the foe stays", x.setting(9), 1);
        setNow();
    }

    /** What the foe asked before does not count against a budget that is set now. */
    private static void setNow() {
        ArmDuel x = Check.drive("drive 30 7; rule fcfs; rule near; foe hurt; budget 999", 28);
        x.run(30);
        x.setFoe(0);
        int before = x.regret(0);
        Check.due("54 it asked before", x.setting(14), 30);
        Check.due("54 none is needed for what it is", x.budgetFor(x.regretAgainst(0, 20)), 0);
        x.request(29);
        x.request(0);
        Check.due("54 it can ask anew", x.budgetFor(x.regretAgainst(5, 20)) >= 0 ? 1 : 0, 1);
        Check.due("54 the regret stays", x.regret(0), before);
    }

    private static int[] all(ArmDuel x) {
        int[][] parts = {Check.settings(x), Check.rule(x, 0), Check.rule(x, 3), Check.arm(x, -1), Check.arm(x, 2),
            Check.regret(x), Check.rival(x), Check.served(x, 0), Check.served(x, 2), Check.waiting(x, -1),
            Check.waiting(x, 1), {x.rounds(), x.best(), x.nextRule(), x.switches(), x.swapRegret(),
                x.bestPair(0), x.swapCost(0, 1), x.leads(0), x.leads(1), x.streak(1), x.cost(-1, 1),
                x.taken(2), x.taken(5), x.cost(2, 3), x.ask(3)}};
        int length = 0;
        for (int[] part : parts) {
            length += part.length;
        }
        int[] all = new int[length];
        int at = 0;
        for (int[] part : parts) {
            System.arraycopy(part, 0, all, at, part.length);
            at += part.length;
        }
        return all;
    }

    private static void promise55() {
        ArmDuel x = hard();
        Check.due("55 rounds", x.saveSnapshot(0), 3);
        int[] then = all(x);
        x.run(20);
        Check.due("55 rounds later", x.saveSnapshot(1), 23);
        int[] later = all(x);
        x.restoreSnapshot(0);
        Check.due("55 slot 0", all(x), then);
        x.restoreSnapshot(1);
        Check.due("55 slot 1", all(x), later);
        x.saveSnapshot(0);
        x.run(1);
        x.restoreSnapshot(0);
        Check.due("55 saved over it", all(x), later);
        Check.argument("55 slot 2", () -> x.saveSnapshot(2));
        Check.argument("55 slot -1", () -> x.saveSnapshot(-1));
    }

    private static void promise56() {
        ArmDuel x = hard();
        Check.due("56 nothing saved", x.restoreSnapshot(0), -1);
        Check.due("56 nothing changed", x.rounds(), 3);
        x.saveSnapshot(0);
        Check.due("56 nothing saved in the other slot", x.restoreSnapshot(1), -1);
        int[] then = all(x);
        x.run(15);
        int[] later = all(x);
        x.setFoe(1);
        x.addAsk(5);
        x.setEta(7);
        x.setBound(1, 1);
        x.setBudget(50);
        x.setMaster(1, 0);
        x.evenWeights();
        Check.due("56 rounds then", x.restoreSnapshot(0), 3);
        Check.due("56 all is as it was", all(x), then);
        x.run(15);
        Check.due("56 all goes on as it did", all(x), later);
        Check.due("56 the snapshot stays", x.restoreSnapshot(0), 3);
        Check.due("56 all is as it was again", all(x), then);
        Check.argument("56 slot 2", () -> x.restoreSnapshot(2));
        Check.argument("56 slot -1", () -> x.restoreSnapshot(-1));
        buffersStay();
        overAnotherDrive();
    }

    private static void buffersStay() {
        ArmDuel x = hard();
        x.append('d');
        x.saveSnapshot(1);
        x.append('r');
        x.restoreSnapshot(1);
        Check.due("56 the buffer stays", x.append('i'), 3);
        Check.due("56 a snapshot of another drive", Check.load(x, "ve 5 4"), 1);
        Check.due("56 the other drive", x.setting(0), 5);
        x.restoreSnapshot(1);
        Check.due("56 the drive of before", x.setting(0), 30);
        Check.due("56 its rules", x.setting(4), 4);
    }

    private static int[] windows(ArmDuel x) {
        int[] all = new int[12];
        for (int i = 0; i < 4; i++) {
            all[i] = x.bestPair(i);
            all[i + 4] = x.dearest(i, 3);
            all[i + 8] = x.windowRegret(4 * i, 5);
        }
        return all;
    }

    /** Another drive, with fewer rules and other costs, is loaded and run between saving and restoring. */
    private static void overAnotherDrive() {
        ArmDuel x = hard();
        x.run(20);
        int[] then = all(x);
        int[] windows = windows(x);
        x.saveSnapshot(0);
        Check.load(x, "drive 90 0; cost 50 60; rule near; foe ends");
        x.run(30);
        x.restoreSnapshot(0);
        Check.due("56 all over another drive", all(x), then);
        Check.due("56 windows over another drive", windows(x), windows);
        ArmDuel y = Check.drive("drive 20 0; rule fcfs; rule near; rival lead", 10, 8, 12);
        y.run(1);
        y.saveSnapshot(0);
        Check.due("56 the rival took fcfs", y.rival(5), 0);
        y.run(1);
        Check.due("56 the rival took near", y.rival(5), 1);
        y.restoreSnapshot(0);
        Check.due("56 the rival took fcfs again", y.rival(5), 0);
    }

    private static void predictionsChangeNothing() {
        ArmDuel x = hard();
        int[] before = all(x);
        x.hurtOf(3);
        x.worst();
        x.regretIn(20);
        x.costIn(1, 20);
        x.breachIn();
        x.regretKeeping(2, 20);
        x.regretAgainst(1, 20);
        x.rivalIn(20);
        x.budgetFor(100);
        x.wouldServe(-1, 2);
        x.optimum(4);
        x.nextRule();
        Check.due("predictions change nothing", all(x), before);
        x.run(20);
        ArmDuel y = hard();
        y.run(20);
        Check.due("predictions change nothing of later", all(x), all(y));
    }

    private static void behindTheLimit() {
        ArmDuel x = Check.drive("drive 10 0; cost 2 3; rule fcfs; rule near; rival keep 1; bound 44 0", 9, 1, 8);
        for (int i = 0; i < 5; i++) {
            x.run(200);
        }
        x.request(5);
        x.request(1);
        x.request(8);
        Check.due("46 behind 1000 rounds", x.hurtOf(8), 89 - 38);
        Check.due("48 behind 1000 rounds", x.regretIn(200), 45 + 48 - 30);
        Check.due("49 behind 1000 rounds", x.costIn(0, 200), 11 + 14 + 23);
        Check.due("50 behind 1000 rounds", x.breachIn(), 1);
        Check.due("51 behind 1000 rounds", x.regretKeeping(1, 1), 78 - 38);
        Check.due("52 behind 1000 rounds", x.regretAgainst(0, 200), 63);
        Check.due("53 behind 1000 rounds", x.rivalIn(200), 63);
        Check.due("54 behind 1000 rounds", x.budgetFor(-99), 0);
        Check.due("no round was made", x.rounds(), 1000);
    }
}
