/** Promises 23 to 43 at their edges: no rounds, one round, 1000 rounds, equal sums, windows that just fit. */
final class CostEdgeTests {
    private static final int NO_VALUE = ArmDuel.NO_VALUE;
    private static final int FAR_OFF = Integer.MAX_VALUE;

    private CostEdgeTests() {
    }

    static void run() {
        noRounds();
        oneRule();
        theRootOfTheBound();
        breachesAtTheBound();
        regretsBehindRounds();
        swaps();
        rivals();
        roundsThatWereMade();
        pairs();
        pairsOfEqualSums();
        comparisons();
        streaksToTheEnd();
        windowsThatJustFit();
        equalWindows();
        means();
        aThousandRounds();
        allBeginsAnew();
    }

    /**
     * Three rounds from 5: fcfs serves 9 6 6 for 4 3 0, near serves 6 9 6 for 1 3 3. The arm itself takes the rules
     * told.
     */
    private static ArmDuel three(int... rules) {
        ArmDuel x = Check.drive("drive 12 5; rule fcfs; rule near", 9, 6);
        for (int round = 0; round < rules.length; round++) {
            if (round == 2) {
                x.request(6);
            }
            x.setMaster(2, rules[round]);
            x.run(1);
        }
        return x;
    }

    private static void noRounds() {
        ArmDuel x = Check.drive("drive 12 5; rule near; rule fcfs; rival keep 1; bound 5 5", 9, 6);
        Check.due("23 none", x.rounds(), 0);
        Check.due("24 regret", Check.regret(x), 0, 5, 0, 0, -1);
        Check.due("25 the lowest", x.best(), 0);
        Check.due("28 nothing", x.swapRegret(), 0);
        Check.due("36 none", x.switches(), 0);
        for (int what = 0; what < 4; what++) {
            Check.due("33 what " + what, x.bestPair(what), 0);
        }
        for (int rule = 0; rule < 2; rule++) {
            Check.due("26 to rule " + rule, x.regretTo(rule), 0);
            Check.due("27 for rule " + rule, x.swapCost(rule, 1 - rule), 0);
            Check.due("29 for rule " + rule, x.bestSwap(rule), 0);
            Check.due("34 for rule " + rule, x.cheaper(rule, 1 - rule), 0);
            Check.due("35 rule " + rule, x.leads(rule), 0);
            Check.due("37 rule " + rule, x.streak(rule), 0);
            Check.due("38 rule " + rule, x.dearest(rule, 1), -1);
            Check.due("42 rule " + rule, x.meanCost(rule), 0.0);
            Check.due("43 rule " + rule, x.share(rule), 0.5f);
        }
        Check.due("42 the arm itself", x.meanCost(-1), 0.0);
        Check.due("30 the rival", Check.rival(x), 2, 5, 0, 0, 0, -1);
        Check.due("31 round 0", x.cost(-1, 0), NO_VALUE);
        Check.due("31 round -1", x.cost(1, -1), NO_VALUE);
        Check.due("32 round 0", x.taken(0), -1);
        Check.due("32 round -1", x.taken(-1), -1);
        Check.due("39 round 0", x.windowRegret(0, 1), NO_VALUE);
        Check.due("40 round 0", x.windowBest(0, 1), -1);
        Check.due("41 one round", x.worstWindow(1), -1);
    }

    private static void oneRule() {
        ArmDuel x = Check.drive("drive 12 5; foe ends; master lead; rival draw; bound 0 0");
        x.run(9);
        Check.due("24 no regret", Check.regret(x), 0, 0, 0, 0, -1);
        Check.due("28 nothing to swap", x.swapRegret(), 0);
        Check.due("29 with itself", x.bestSwap(0), 0);
        Check.due("27 what it cost", x.swapCost(0, 0), x.arm(-1, 3));
        Check.due("34 no less than itself", x.cheaper(0, 0), 0);
        Check.due("35 always", x.leads(0), 9);
        Check.due("37 always", x.streak(0), 9);
        Check.due("40 always", x.windowBest(3, 6), 0);
        Check.due("43 all of it", x.share(0), 1.0f);
        Check.due("33 what it cost", x.bestPair(0), x.arm(0, 3));
        Check.due("33 in no round of the first", x.bestPair(3), 0);
        Check.due("30 the rival costs the same", x.rival(3), 0);
        Check.due("30 so never less", x.rival(4), 0);
    }

    /** The square root is rounded down: just ahead of each square, and at it. */
    private static void theRootOfTheBound() {
        ArmDuel x = Check.drive("drive 2 0; bound 7 100");
        Check.due("24 behind 0", x.regret(1), 7);
        for (int root = 1; root <= 31; root++) {
            int behind = root * root - 1 - x.rounds();
            if (behind > 0) {
                x.run(behind);
            }
            Check.due("24 behind " + (root * root - 1), x.regret(1), 7 + 100 * (root - 1));
            x.run(1);
            Check.due("24 behind " + root * root, x.regret(1), 7 + 100 * root);
        }
        x.run(39);
        Check.due("24 behind 1000", x.regret(1), 7 + 3100);
        x.setBound(99999, 9999);
        Check.due("24 the greatest bound of all", x.regret(1), 99999 + 31 * 9999);
        x.setBound(0, 9999);
        Check.due("24 BASE of 0", x.regret(1), 31 * 9999);
        x.setBound(99999, 0);
        Check.due("24 ROOT of 0", x.regret(1), 99999);
    }

    /** The arm of fcfs has the regrets 3 3 0 and then 0 in each round. */
    private static void breachesAtTheBound() {
        int[][] bounds = {{2, 0, 2, 0}, {3, 0, 0, -1}, {0, 0, 2, 0}, {1, 1, 2, 0}, {1, 2, 0, -1}, {0, 3, 0, -1},
            {4, 0, 0, -1}};
        for (int[] bound : bounds) {
            ArmDuel x = Check.drive("drive 12 5; rule fcfs; rule near; bound " + bound[0] + " " + bound[1], 9, 6);
            x.run(2);
            x.request(6);
            x.run(4);
            Check.due("24 breaches of " + bound[0] + " " + bound[1], x.regret(2), bound[2]);
            Check.due("24 the first of " + bound[0] + " " + bound[1], x.regret(4), bound[3]);
            Check.due("24 the greatest regret", x.regret(3), 3);
        }
        ArmDuel late = Check.drive("drive 12 5; rule fcfs; rule near", 9, 6);
        late.run(1);
        Check.due("24 no breach without a bound", late.regret(2), 0);
        late.setBound(2, 0);
        Check.due("24 none behind a round of before", late.regret(2), 0);
        Check.due("24 the first is none", late.regret(4), -1);
        late.run(1);
        Check.due("24 the next one is one", late.regret(2), 1);
        Check.due("24 it is round 1", late.regret(4), 1);
        late.setBound(99999, 0);
        late.run(1);
        Check.due("24 breaches stay", late.regret(2), 1);
        Check.due("24 the first stays", late.regret(4), 1);
        late.setBound(0, 0);
        late.run(2);
        Check.due("24 more of them", late.regret(2), 3);
        Check.due("24 the first one is still round 1", late.regret(4), 1);
    }

    /** The regret can be negative, and the greatest one stays behind it. */
    private static void regretsBehindRounds() {
        ArmDuel x = three(1, 0, 0);
        Check.due("31 the arm itself in round 0", x.cost(-1, 0), 1);
        Check.due("31 in round 1", x.cost(-1, 1), 3);
        Check.due("31 in round 2", x.cost(-1, 2), 3);
        Check.due("24 behind near", Check.regret(x), 0, NO_VALUE, 0, 0, -1);
        ArmDuel y = Check.drive("drive 20 0; rule fcfs; rule near; master keep 1; bound 0 0", 10, 8, 12);
        y.run(3);
        y.request(15);
        y.request(10);
        y.request(4);
        y.setMaster(2, 0);
        int[] regrets = {0, 0, 1, 1, -4};
        y.run(1);
        Check.due("24 behind four", y.regret(0), 1);
        y.run(2);
        Check.due("24 behind six", y.regret(0), regrets[4]);
        Check.due("24 the greatest is above it", y.regret(3), 1);
        Check.due("24 a regret below 0 is no breach of 0", y.regret(2), 2);
        Check.due("26 to both below 0", Math.max(y.regretTo(0), y.regretTo(1)), -4);
    }

    private static void swaps() {
        ArmDuel x = three(0, 0, 0);
        // From 5 with 9 6 it is 4 or 1, from 9 with 6 it is 3, from 6 with 6 it is 0.
        Check.due("27 fcfs for itself", x.swapCost(0, 0), 7);
        Check.due("27 near for fcfs", x.swapCost(0, 1), 4);
        Check.due("27 for a rule that was not taken", x.swapCost(1, 0), 0);
        Check.due("27 for a rule that was not taken", x.swapCost(1, 1), 0);
        Check.due("29 near", x.bestSwap(0), 1);
        Check.due("29 of both the lowest", x.bestSwap(1), 0);
        Check.due("28 the sum", x.swapRegret(), 3);
        ArmDuel y = three(1, 1, 1);
        Check.due("29 itself is the best", y.bestSwap(1), 1);
        Check.due("28 nothing to win", y.swapRegret(), 0);
        ArmDuel both = three(0, 1, 0);
        Check.due("27 fcfs in two rounds", both.swapCost(0, 0), 4);
        Check.due("27 near for it", both.swapCost(0, 1), 1);
        Check.due("27 near in one", both.swapCost(1, 1), 3);
        Check.due("29 of both the lowest for near", both.bestSwap(1), 0);
        Check.due("28 the sum of both", both.swapRegret(), 3);
        // scan looks its own way from where the arm itself stands.
        ArmDuel scan = Check.drive("drive 12 9; rule fcfs; rule scan; rule band 0; rule wrap; master keep 1", 3);
        scan.run(1);
        scan.request(1);
        scan.request(4);
        scan.setMaster(2, 0);
        scan.run(1);
        Check.due("27 scan downward for fcfs", scan.swapCost(0, 1), 2);
        Check.due("27 wrap upward for fcfs", scan.swapCost(0, 3), 1);
        Check.due("27 band 0, none there, for fcfs", scan.swapCost(0, 2), 2);
        scan.run(1);
        scan.run(5);
        Check.due("27 nothing without requests", scan.swapCost(0, 0), 2 + 3);
        Check.due("16 no swap turns the arm", scan.arm(-1, 1), 0);
    }

    private static void rivals() {
        // near costs 1 3 3 against 4 3 0: less in one round, and as much in another.
        ArmDuel x = Check.drive("drive 12 5; rule fcfs; rule near; rival keep 1", 9, 6);
        x.run(1);
        Check.due("30 behind one", Check.rival(x), 2, 6, 1, 0, 1, 1);
        x.run(1);
        Check.due("30 as much is not less", Check.rival(x), 2, 9, 4, 0, 1, 1);
        x.request(6);
        x.run(1);
        Check.due("30 more is not less", Check.rival(x), 2, 6, 7, 0, 1, 1);
        x.run(1);
        Check.due("30 nothing is not less than nothing", x.rival(4), 1);
        Check.due("30 the rule of a round without requests", x.rival(5), 1);
        // The rival of near by one round and then fcfs lies below every rule: 1 3 against 4 3 and 1 3, then 0.
        ArmDuel none = Check.drive("drive 12 5; rule fcfs; rule near", 9, 6);
        none.run(3);
        for (int what = 0; what < 6; what++) {
            Check.due("30 what " + what + " without a rival", none.rival(what), NO_VALUE);
        }
        Check.due("3 a rival is told", Check.load(none, "drive 12 5; rule near; rival lead"), 1);
        Check.due("30 now there is one", none.rival(0), 1);
        Check.due("3 none is told", Check.load(none, "drive 12 5; rule near"), 1);
        Check.due("30 now there is none", none.rival(0), NO_VALUE);
        // It is no rule: no weight, no part in the regret, no leading.
        ArmDuel y = Check.drive("drive 12 5; rule fcfs; rival draw; foe ends");
        ArmDuel same = Check.drive("drive 12 5; rule fcfs; foe ends");
        y.run(8);
        same.run(8);
        Check.due("30 no part in the regret", Check.regret(y), Check.regret(same));
        Check.due("30 no part in the weights", Check.rule(y, 0), Check.rule(same, 0));
        Check.due("30 no part in the seed", y.setting(8), 1);
    }

    private static void roundsThatWereMade() {
        ArmDuel x = three(0, 1, 0);
        int[] rounds = {Integer.MIN_VALUE, -2, -1, 3, 4, 999, 1000, 1001, FAR_OFF};
        for (int round : rounds) {
            for (int arm = -1; arm < 2; arm++) {
                Check.due("31 round " + round, x.cost(arm, round), NO_VALUE);
            }
            Check.due("32 round " + round, x.taken(round), -1);
        }
        Check.due("31 round 0", x.cost(0, 0), 4);
        Check.due("31 the latest round", x.cost(1, 2), 3);
        Check.due("32 round 0", x.taken(0), 0);
        Check.due("32 round 1", x.taken(1), 1);
        Check.due("32 the latest round", x.taken(2), 0);
    }

    private static void pair(String what, ArmDuel x, int... want) {
        int[] got = new int[4];
        for (int i = 0; i < 4; i++) {
            got[i] = x.bestPair(i);
        }
        Check.due(what, got, want);
    }

    private static void pairs() {
        // near 1, then fcfs 3 0; also near 1 3, then fcfs 0: the least number of rounds is one.
        pair("33 the first one in one round", three(0, 0, 0), 4, 1, 0, 1);
        pair("33 one round", three(0), 1, 0, 1, 0);
        pair("33 two rounds", three(0, 0), 4, 0, 1, 0);
        // near pays 1 2 1 and then 1, fcfs 4 3 2 and then 0.
        ArmDuel x = Check.drive("drive 12 5; rule near; rule fcfs", 9, 6, 8);
        x.run(3);
        x.request(8);
        x.run(1);
        pair("33 the second one in the last round", x, 4, 0, 1, 3);
        x.run(200);
        pair("33 rounds without requests behind them", x, 4, 0, 1, 3);
    }

    private static void pairsOfEqualSums() {
        ArmDuel x = Check.drive("drive 12 5; rule fcfs; rule fcfs; rule near; rule near; rule fcfs", 9, 6);
        x.run(2);
        x.request(6);
        x.run(1);
        pair("33 the lowest first, the lowest second", x, 4, 2, 0, 1);
        ArmDuel idle = Check.drive("drive 12 5; rule near; rule fcfs; rule scan");
        idle.run(7);
        pair("33 without requests", idle, 0, 0, 0, 0);
        ArmDuel same = Check.drive("drive 12 5; rule near; rule near; foe ends");
        same.run(7);
        pair("33 the same rule twice", same, same.arm(0, 3), 0, 0, 0);
    }

    private static void comparisons() {
        ArmDuel x = three(0, 0, 0);
        Check.due("34 near in one round", x.cheaper(1, 0), 1);
        Check.due("34 fcfs in one round", x.cheaper(0, 1), 1);
        Check.due("34 than itself", x.cheaper(0, 0), 0);
        // Behind the rounds they have cost 4 7 7 and 1 4 7.
        Check.due("35 near behind two", x.leads(1), 2);
        Check.due("35 fcfs, the lowest, behind one", x.leads(0), 1);
        Check.due("25 of both the lowest", x.best(), 0);
        Check.due("26 to fcfs", x.regretTo(0), 0);
        x.run(10);
        Check.due("35 behind rounds without requests", x.leads(0), 11);
    }

    private static void streaksToTheEnd() {
        ArmDuel x = three();
        Check.due("36 no round", x.switches(), 0);
        int[] rules = {1, 0, 0, 1, 1, 1, 0, 0, 0};
        int[] switches = {0, 1, 1, 2, 2, 2, 3, 3, 3};
        int[] zeros = {0, 1, 2, 2, 2, 2, 2, 2, 3};
        int[] ones = {1, 1, 1, 1, 2, 3, 3, 3, 3};
        for (int round = 0; round < rules.length; round++) {
            x.setMaster(2, rules[round]);
            x.run(1);
            Check.due("36 behind round " + round, x.switches(), switches[round]);
            Check.due("37 rule 0 behind round " + round, x.streak(0), zeros[round]);
            Check.due("37 rule 1 behind round " + round, x.streak(1), ones[round]);
        }
    }

    /** The costs in rounds 0 to 5 are 3 0 5 5 0 5. */
    private static ArmDuel six() {
        ArmDuel x = Check.drive("drive 12 3; rule fcfs; rule near", 0, 0, 5, 10, 10, 5);
        x.run(6);
        return x;
    }

    private static void windowsThatJustFit() {
        ArmDuel x = six();
        for (int length = 1; length <= 6; length++) {
            Check.due("39 at the end", x.windowRegret(6 - length, length) == NO_VALUE ? 1 : 0, 0);
            Check.due("40 at the end", x.windowBest(6 - length, length) == -1 ? 1 : 0, 0);
            Check.due("39 one farther", x.windowRegret(7 - length, length), NO_VALUE);
            Check.due("40 one farther", x.windowBest(7 - length, length), -1);
            Check.due("38 it fits", x.dearest(0, length) >= 0 ? 1 : 0, 1);
            Check.due("41 it fits", x.worstWindow(length) >= 0 ? 1 : 0, 1);
        }
        Check.due("38 one too long", x.dearest(0, 7), -1);
        Check.due("41 one too long", x.worstWindow(7), -1);
        Check.due("38 the longest", x.dearest(1, 1000), -1);
        Check.due("41 the longest", x.worstWindow(1000), -1);
        Check.due("39 the longest", x.windowRegret(0, 1000), NO_VALUE);
        Check.due("40 the longest", x.windowBest(0, 1000), -1);
        for (int from : new int[] {6, 7, 1000, FAR_OFF - 1000, FAR_OFF - 1, FAR_OFF}) {
            for (int length : new int[] {1, 2, 1000}) {
                Check.due("39 from " + from, x.windowRegret(from, length), NO_VALUE);
                Check.due("40 from " + from, x.windowBest(from, length), -1);
            }
        }
    }

    private static void equalWindows() {
        ArmDuel x = six();
        int[] want = {3, 0, 5, 5, 0, 5};
        for (int round = 0; round < 6; round++) {
            Check.due("31 the cost in round " + round, x.cost(0, round), want[round]);
        }
        Check.due("38 of three the earliest", x.dearest(0, 1), 2);
        Check.due("38 two rounds", x.dearest(0, 2), 2);
        Check.due("38 three rounds of 10, the earliest", x.dearest(0, 3), 1);
        Check.due("38 four rounds of 15 at the end", x.dearest(0, 4), 2);
        Check.due("38 five rounds of 15 at the end", x.dearest(0, 5), 1);
        Check.due("38 all rounds", x.dearest(0, 6), 0);
        ArmDuel idle = Check.drive("drive 12 3; rule fcfs; rule near");
        idle.run(3);
        Check.due("38 of equal rounds the earliest", idle.dearest(1, 2), 0);
        Check.due("39 nothing", idle.windowRegret(1, 2), 0);
        Check.due("40 of both the lowest", idle.windowBest(1, 2), 0);
        Check.due("41 of equal rounds the earliest", idle.worstWindow(2), 0);
        // The arm itself costs 1 3 3, fcfs 4 3 0, near 1 3 3: the regrets of single rounds are 0 0 3.
        ArmDuel y = three(1, 0, 0);
        Check.due("39 round 0", y.windowRegret(0, 1), 0);
        Check.due("39 round 2", y.windowRegret(2, 1), 3);
        Check.due("39 rounds 1 and 2", y.windowRegret(1, 2), 3);
        Check.due("39 rounds 0 and 1", y.windowRegret(0, 2), 0);
        Check.due("40 rounds 0 and 1", y.windowBest(0, 2), 1);
        Check.due("40 round 1, of both the lowest", y.windowBest(1, 1), 0);
        Check.due("40 rounds 1 and 2", y.windowBest(1, 2), 0);
        Check.due("41 the last round", y.worstWindow(1), 2);
        Check.due("41 the last two", y.worstWindow(2), 1);
        Check.due("41 all of them", y.worstWindow(3), 0);
    }

    private static void means() {
        ArmDuel x = three(0, 0, 0);
        Check.due("42 the arm itself", x.meanCost(-1), 7.0 / 3.0);
        Check.due("42 near", x.meanCost(1), 7.0 / 3.0);
        x.run(197);
        Check.due("42 of 200", x.meanCost(0), 7.0 / 200.0);
        ArmDuel six = Check.drive("drive 12 5; rule fcfs; rule near; rule scan; rule wrap; rule band 1; rule band 0",
                9, 6);
        Check.due("43 one of six", six.share(5), 1000000.0f / 6000000.0f);
        six.run(1);
        int sum = 0;
        for (int rule = 0; rule < 6; rule++) {
            sum += six.rule(rule, 2);
        }
        for (int rule = 0; rule < 6; rule++) {
            Check.due("43 of rule " + rule, six.share(rule), (float) six.rule(rule, 2) / (float) sum);
        }
        Check.due("43 fcfs has less", six.share(0) < six.share(1) ? 1 : 0, 1);
    }

    private static void aThousandRounds() {
        ArmDuel x = Check.drive("drive 10 1; rule fcfs; rule near; rival lead; foe ends; bound 0 0", 0, 9);
        for (int i = 0; i < 5; i++) {
            x.run(200);
        }
        int fcfs = 0;
        int near = 0;
        int itself = 0;
        int cheaper = 0;
        for (int round = 920; round < 1000; round++) {
            fcfs += x.cost(0, round);
            near += x.cost(1, round);
            itself += x.cost(-1, round);
            cheaper += x.cost(1, round) < x.cost(0, round) ? 1 : 0;
        }
        Check.due("39 the last 80", x.windowRegret(920, 80), itself - Math.min(fcfs, near));
        Check.due("40 the last 80", x.windowBest(920, 80), near < fcfs ? 1 : 0);
        Check.due("39 one round farther", x.windowRegret(921, 80), NO_VALUE);
        Check.due("34 near in some of them", x.cheaper(1, 0) >= cheaper && cheaper > 50 ? 1 : 0, 1);
        Check.due("39 all 1000", x.windowRegret(0, 1000), x.regret(0));
        Check.due("40 all 1000", x.windowBest(0, 1000), x.best());
        Check.due("41 all 1000", x.worstWindow(1000), 0);
        Check.due("38 all 1000", x.dearest(1, 1000), 0);
        Check.due("24 breaches of 0, not in the rounds 0 and 2", x.regret(2), 998);
        Check.due("24 the first one", x.regret(4), 1);
        Check.due("35 near leads", x.leads(0) + x.leads(1), 1000);
        Check.due("37 of fcfs", x.streak(0), 1000);
        Check.due("36 never", x.switches(), 0);
        Check.due("42 of 1000", x.meanCost(-1), (double) x.arm(-1, 3) / 1000.0);
        Check.due("6 in how many rounds", x.rule(0, 3), 1000);
    }

    /** Nothing of 1000 rounds is left behind a load. */
    private static void allBeginsAnew() {
        String text = "drive 10 1; rule fcfs; rule near; rival lead; foe ends; bound 0 0";
        ArmDuel x = Check.drive(text, 0, 9);
        for (int i = 0; i < 5; i++) {
            x.run(200);
        }
        Check.load(x, text);
        x.request(0);
        x.request(9);
        ArmDuel y = Check.drive(text, 0, 9);
        x.run(9);
        y.run(9);
        Portrait.same("3 begun anew", Portrait.of(x), Portrait.of(y));
        Check.due("31 nothing of before", y.cost(0, 999), NO_VALUE);
    }
}
