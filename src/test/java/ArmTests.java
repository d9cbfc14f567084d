/** Promises 16 to 22: arms. */
final class ArmTests {
    private static final String ALL_RULES = "rule fcfs; rule near; rule scan; rule wrap; rule band 2";

    private ArmTests() {
    }

    static void run() {
        promise16();
        promise17();
        promise18();
        promise18Ties();
        scanTurns();
        wrapGoesRound();
        theOldestOfOneCylinder();
        promise19();
        promise20();
        promise21();
        promise21Draws();
        smallWeights();
        promise22();
    }

    private static void promise16() {
        ArmDuel x = Check.drive("drive 20 5; cost 4 3; rule fcfs; rule scan; rule near", 2, 9, 5);
        x.run(3);
        // fcfs: 5 2 9 5, scan: 5 5 9 2 (turned), near: 5 5 2 9.
        Check.due("16 the arm itself", Check.arm(x, -1), 5, 1, 0, 12 + 3 * 14, 14, 2, 3);
        Check.due("16 fcfs", Check.arm(x, 0), 5, 1, 0, 12 + 3 * 14, 14, 2, 3);
        Check.due("16 scan", Check.arm(x, 1), 2, 0, 0, 8 + 3 * 11, 11, 2, 3);
        Check.due("16 near", Check.arm(x, 2), 9, 1, 0, 8 + 3 * 10, 10, 2, 3);
        ArmDuel quick = Check.drive("drive 20 5; foe mirror");
        quick.run(3);
        Check.due("16 served in the round in which it came", quick.arm(-1, 5), 0);
        Check.index("16 arm 3", () -> x.arm(3, 0));
        Check.index("16 arm -2", () -> x.arm(-2, 0));
        Check.argument("16 what 7", () -> x.arm(-1, 7));
        Check.argument("16 what -1", () -> x.arm(2, -1));
        Check.index("16 the index comes first", () -> x.arm(3, 7));
    }

    private static void promise17() {
        ArmDuel x = Check.drive("drive 20 5; rule fcfs; rule near", 1, 9);
        x.run(1);
        x.request(7);
        Check.due("17 for the arm itself", Check.waiting(x, -1), 9, 7);
        Check.due("17 for fcfs", Check.waiting(x, 0), 9, 7);
        Check.due("17 for near", Check.waiting(x, 1), 9, 7);
        Check.due("17 a round of before", x.waiting(-1, 0, 1), 0);
        Check.due("17 the next round", x.waiting(1, 1, 1), 1);
        x.run(1);
        Check.due("17 near at 1 serves 7", Check.waiting(x, 1), 9);
        Check.due("17 fcfs at 1 serves 9", Check.waiting(x, 0), 7);
        Check.due("17 none behind the last one", x.waiting(0, 1, 0), -1);
        Check.due("17 none at 20", x.waiting(0, 20, 1), -1);
        Check.due("17 none at -1", x.waiting(-1, -1, 0), -1);
        Check.due("17 none far off", x.waiting(1, Integer.MAX_VALUE, 0), -1);
        Check.index("17 arm 2", () -> x.waiting(2, 0, 0));
        Check.index("17 arm -2", () -> x.waiting(-2, 0, 0));
        Check.argument("17 what 2", () -> x.waiting(0, 0, 2));
        Check.argument("17 what -1", () -> x.waiting(0, 9, -1));
        Check.index("17 the index comes first", () -> x.waiting(2, 0, 2));
    }

    private static void wouldServe(String drive, int[] requests, int... want) {
        ArmDuel x = Check.drive(drive + "; " + ALL_RULES, requests);
        for (int rule = 0; rule < want.length; rule++) {
            Check.due("18 " + drive + ", rule " + rule, x.wouldServe(-1, rule), want[rule]);
            Check.due("18 " + drive + ", own arm by rule " + rule, x.wouldServe(4, rule), want[rule]);
        }
    }

    private static void promise18() {
        wouldServe("drive 20 5", new int[0], -1, -1, -1, -1, -1);
        wouldServe("drive 20 5", new int[] {9, 2, 4, 8}, 9, 4, 8, 8, 4);
        wouldServe("drive 20 5", new int[] {1, 2}, 1, 2, 2, 1, 1);
        wouldServe("drive 20 5", new int[] {9, 5, 7}, 9, 5, 5, 5, 5);
        wouldServe("drive 20 5", new int[] {10, 7, 6, 0}, 10, 6, 6, 6, 7);
        wouldServe("drive 20 19", new int[] {3, 18, 12}, 3, 18, 18, 3, 18);
        ArmDuel x = Check.drive("drive 20 5; " + ALL_RULES + "; master keep 1", 6, 15, 4);
        x.run(1);
        Check.due("18 the arm itself went to 4", x.wouldServe(-1, 1), 6);
        Check.due("18 fcfs went to 6", x.wouldServe(0, 1), 4);
        Check.due("18 scan went to 6", x.wouldServe(2, 2), 15);
        Check.index("18 arm 5", () -> x.wouldServe(5, 0));
        Check.index("18 arm -2", () -> x.wouldServe(-2, 0));
        Check.index("18 rule 5", () -> x.wouldServe(0, 5));
        Check.index("18 rule -1", () -> x.wouldServe(0, -1));
    }

    private static void promise18Ties() {
        // near: of several the lowest cylinder; band: the oldest within WIDTH, which counts itself.
        wouldServe("drive 20 5", new int[] {8, 2}, 8, 2, 8, 8, 8);
        wouldServe("drive 20 5", new int[] {2, 8}, 2, 2, 8, 8, 2);
        wouldServe("drive 20 5", new int[] {11, 7, 3}, 11, 3, 7, 7, 7);
        wouldServe("drive 20 5", new int[] {11, 3, 7}, 11, 3, 7, 7, 3);
        ArmDuel x = Check.drive("drive 20 5; rule band 0; rule band 99", 7, 5);
        Check.due("18 band 0", x.wouldServe(-1, 0), 5);
        Check.due("18 band 99", x.wouldServe(-1, 1), 7);
    }

    private static void scanTurns() {
        ArmDuel x = Check.drive("drive 20 5; rule scan; rule near", 4, 8, 7, 2);
        Check.due("18 scan upward", x.wouldServe(-1, 0), 7);
        x.run(2);
        Check.due("16 scan at 8, still up", Check.arm(x, -1), 8, 1, 2, 3, 3, 1, 2);
        Check.due("18 scan would turn", x.wouldServe(-1, 0), 4);
        Check.due("18 it did not turn by that", x.arm(-1, 1), 1);
        x.run(1);
        Check.due("16 scan at 4, down", Check.arm(x, -1), 4, 0, 1, 7, 7, 2, 3);
        x.request(4);
        x.request(9);
        Check.due("18 at its cylinder, downward", x.wouldServe(-1, 0), 4);
        x.run(2);
        Check.due("16 scan at 2, down", x.arm(-1, 0), 2);
        x.setMaster(2, 1);
        x.run(1);
        Check.due("16 near does not turn", Check.arm(x, -1), 9, 0, 0, 16, 16, 4, 6);
        x.run(1);
        Check.due("16 nothing waits, nothing turns", x.arm(-1, 1), 0);
        x.setMaster(2, 0);
        x.request(12);
        x.run(1);
        Check.due("16 scan turns to 12", Check.arm(x, -1), 12, 1, 0, 19, 19, 4, 7);
    }

    private static void wrapGoesRound() {
        ArmDuel x = Check.drive("drive 20 5; rule wrap", 4, 8, 2, 6);
        x.run(4);
        int[] order = new int[4];
        for (int i = 0; i < 4; i++) {
            order[i] = x.served(3 - i, 1);
        }
        Check.due("22 wrap", order, 6, 8, 2, 4);
        Check.due("16 wrap does not turn", x.arm(-1, 1), 1);
    }

    private static void theOldestOfOneCylinder() {
        for (int rule = 0; rule < 5; rule++) {
            ArmDuel x = Check.drive("drive 20 5; " + ALL_RULES + "; master keep " + rule, 5, 9);
            x.run(1);
            x.request(9);
            x.run(1);
            Check.due("22 the oldest by rule " + rule, Check.served(x, 0), 1, 9, 0, 4, rule);
            Check.due("17 the younger one stays by rule " + rule, x.waiting(-1, 0, 1), 1);
        }
    }

    private static void promise19() {
        ArmDuel x = Check.drive("drive 20 4", 9, 1, 5);
        Check.due("19 none", x.optimum(0), 0);
        Check.due("19 one", x.optimum(1), 5);
        Check.due("19 two", x.optimum(2), 3 + 8);
        Check.due("19 three", x.optimum(3), 3 + 4 + 4);
        Check.due("19 fewer wait", x.optimum(4), -1);
        Check.argument("19 many 9", () -> x.optimum(9));
        Check.argument("19 many -1", () -> x.optimum(-1));
        Check.due("19 SEEK counts too", Check.drive("drive 20 4; cost 10 2", 9, 4, 9, 5).optimum(4), 20 + 10);
        ArmDuel many = Check.drive("drive 100 50", 60, 40, 70, 30, 80, 20, 90, 10, 0);
        Check.due("19 eight", many.optimum(8), 40 + 80);
        Check.due("19 the oldest count", many.optimum(7), 30 + 70);
        ArmDuel own = Check.drive("drive 20 4; rule fcfs; rule near", 9, 5);
        own.run(1);
        Check.due("19 the arm itself stands at 9", own.optimum(1), 4);
    }

    private static void promise20() {
        ArmDuel x = Check.drive("drive 20 4", 9, 1, 5);
        Check.due("20 one", Check.tour(x, 1), 0);
        Check.due("20 two", Check.tour(x, 2), 1, 0);
        Check.due("20 three", Check.tour(x, 3), 1, 2, 0);
        Check.due("20 no place 3", x.optimumAt(3, 3), -1);
        Check.due("20 no place -1", x.optimumAt(3, -1), -1);
        Check.due("20 no place far off", x.optimumAt(3, Integer.MAX_VALUE), -1);
        Check.due("20 fewer wait", x.optimumAt(4, 0), -1);
        Check.argument("20 many 0", () -> x.optimumAt(0, 0));
        Check.argument("20 many 9", () -> x.optimumAt(9, 0));
        Check.argument("20 many -1", () -> x.optimumAt(-1, 0));
        Check.due("20 of several the first one", Check.tour(Check.drive("drive 11 5", 10, 0), 2), 0, 1);
        Check.due("20 of several, lowest last", Check.tour(Check.drive("drive 11 5", 0, 10), 2), 0, 1);
        Check.due("20 at one cylinder", Check.tour(Check.drive("drive 11 5", 8, 8, 5, 8), 4), 2, 0, 1, 3);
        // Without SEEK, 7 can as well be served on the way back from 9; with it, too.
        Check.due("20 on the way back", Check.tour(Check.drive("drive 20 5", 9, 7, 0), 3), 0, 1, 2);
        Check.due("20 on the way there", Check.tour(Check.drive("drive 20 5", 7, 9, 0), 3), 0, 1, 2);
        Check.due("20 not on the way back to 8", Check.tour(Check.drive("drive 20 5", 9, 7, 8), 3), 1, 2, 0);
        Check.due("20 eight", Check.tour(Check.drive("drive 100 50", 60, 40, 70, 30, 80, 20, 90, 10), 8),
                0, 2, 4, 6, 1, 3, 5, 7);
    }

    private static void promise21() {
        ArmDuel x = Check.drive("drive 10 0; rule fcfs; rule near; rule scan; master keep 2", 9, 1);
        Check.due("21 keep", x.nextRule(), 2);
        x.setMaster(1, 0);
        Check.due("21 lead, of several the lowest", x.nextRule(), 0);
        x.run(1);
        Check.due("21 lead, the lowest of 1 and 2", x.nextRule(), 1);
        x.run(1);
        Check.due("21 it was taken", x.taken(1), 1);
    }

    /** Follows weights, seeds and draws through many rounds by what the own arms cost. */
    private static void promise21Draws() {
        ArmDuel x = Check.drive("drive 60 7; cost 3 2; rule fcfs; rule near; rule scan; rule band 9;"
                + " master draw; mix 450 77; rival draw; foe ends", 50);
        int[] weights = {1000000, 1000000, 1000000, 1000000};
        int[] drawn = new int[4];
        int seed = 77;
        for (int round = 0; round < 30; round++) {
            seed = (1103 * seed + 12345) % 32768;
            int rule = drawn(weights, seed);
            drawn[rule]++;
            Check.due("21 nextRule in round " + round, x.nextRule(), rule);
            x.run(1);
            Check.due("32 taken in round " + round, x.taken(round), rule);
            Check.due("30 the rival's draw in round " + round, x.rival(5), rule);
            Check.due("5 seed behind round " + round, x.setting(8), seed);
            int greatest = 0;
            for (int i = 0; i < 4; i++) {
                long lost = weights[i] * 450L * x.cost(i, round) / (1000L * (3 + 2 * 59));
                weights[i] = Math.max(1, weights[i] - (int) lost);
                greatest = Math.max(greatest, weights[i]);
            }
            for (int i = 0; i < 4; i++) {
                weights[i] *= greatest < 1000 ? 1000 : 1;
                Check.due("6 weight " + i + " behind round " + round, x.rule(i, 2), weights[i]);
            }
        }
        for (int i = 0; i < 4; i++) {
            Check.due("6 how often rule " + i + " was taken", x.rule(i, 3), drawn[i]);
        }
        ArmDuel idle = Check.drive("drive 10 0; rule fcfs; rule near; master draw; mix 1 5");
        idle.run(1);
        Check.due("5 a draw without requests", idle.setting(8), 1103 * 5 + 12345);
        idle.setMaster(1, 0);
        idle.run(1);
        Check.due("5 no draw by lead", idle.setting(8), 1103 * 5 + 12345);
    }

    private static void smallWeights() {
        // Each round costs as much as one can, so a weight loses half of itself, rounded toward 0.
        ArmDuel x = Check.drive("drive 2 0; cost 5 9; rule fcfs; rule scan; mix 500 1; foe ends");
        int[] want = {500000, 250000, 125000, 62500, 31250, 15625, 7813, 3907, 1954, 977000, 488500};
        for (int round = 0; round < want.length; round++) {
            x.run(1);
            Check.due("6 weight 0 behind round " + round, x.rule(0, 2), want[round]);
            Check.due("6 weight 1 behind round " + round, x.rule(1, 2), want[round]);
        }
        // Halves and four fifths, so that a weight becomes 1000, which is not less than 1000.
        ArmDuel z = Check.drive("drive 2 0; rule fcfs; foe ends");
        for (int round = 0; round < 12; round++) {
            z.setEta(round % 4 == 2 ? 200 : 500);
            z.run(1);
        }
        Check.due("6 a weight of 1000", z.rule(0, 2), 1000);
        z.setEta(1);
        z.run(1);
        Check.due("6 a weight that was 999", z.rule(0, 2), 999000);
        // near stays at 9, so its weight stays too, and that of fcfs falls to 1.
        ArmDuel y = Check.drive("drive 10 9; rule fcfs; rule near; mix 500 1; foe ends", 0, 9);
        y.run(60);
        Check.due("6 the least weight", y.rule(0, 2), 1);
    }

    private static int drawn(int[] weights, int seed) {
        int sum = 0;
        for (int weight : weights) {
            sum += weight;
        }
        int x = seed % sum;
        int upTo = 0;
        for (int rule = 0; rule < weights.length; rule++) {
            upTo += weights[rule];
            if (upTo > x) {
                return rule;
            }
        }
        return -1;
    }

    private static void promise22() {
        ArmDuel x = Check.drive("drive 20 5; cost 4 3; rule near; rule fcfs; master keep 1", 9, 6);
        Check.due("22 none served", Check.served(x, 0), -1, -1, -1, -1, -1);
        x.run(1);
        Check.due("22 the first one", Check.served(x, 0), 0, 9, 0, 16, 1);
        Check.due("22 no second one", Check.served(x, 1), -1, -1, -1, -1, -1);
        x.request(9);
        x.setMaster(2, 0);
        x.run(3);
        Check.due("22 the latest one", Check.served(x, 0), 2, 6, 0, 13, 0);
        Check.due("22 the one ahead of it", Check.served(x, 1), 1, 9, 1, 0, 0);
        Check.due("22 the third one", Check.served(x, 2), 0, 9, 0, 16, 1);
        x.setFoe(3);
        x.run(30);
        Check.due("22 the latest of many", x.served(0, 0), 33);
        Check.due("22 20 are kept", x.served(19, 0), 14);
        Check.due("22 the 21st is not", x.served(20, 0), -1);
        Check.due("22 none far off", x.served(Integer.MAX_VALUE, 4), -1);
        Check.argument("22 index -1", () -> x.served(-1, 0));
        Check.argument("22 what 5", () -> x.served(0, 5));
        Check.argument("22 what -1", () -> x.served(0, -1));
        Check.argument("22 what 5 of none", () -> x.served(50, 5));
    }
}
