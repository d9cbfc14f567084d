/** Sections 2 and 3 at their edges, and promises 8 to 22 with them: arms, rules, foes, draws and weights. */
final class RoundEdgeTests {
    private static final String RULES = "; rule fcfs; rule near; rule scan; rule wrap; rule band 3";
    private static final int NO_VALUE = ArmDuel.NO_VALUE;

    private RoundEdgeTests() {
    }

    static void run() {
        prices();
        nothingWaits();
        nothingWaitsAnyMore();
        bandsAtTheirWidth();
        endsOfTheDrive();
        directionsStay();
        nothingTurnsWithoutRequests();
        oldestOfMany();
        foesAtTheLimit();
        foeFar();
        foeMirrorAndEnds();
        foeList();
        budgets();
        budgetsAndFullRounds();
        drawsAtTheSum();
        drawsWithoutRequests();
        seeds();
        leads();
        weights();
        weightsRaised();
        requestsAtTheLimit();
        waits();
        servedOnes();
        tours();
        asksAndSettings();
    }

    private static void would(String drive, int[] requests, int... want) {
        ArmDuel x = Check.drive(drive + RULES, requests);
        for (int rule = 0; rule < want.length; rule++) {
            Check.due("18 " + drive + " by rule " + rule, x.wouldServe(-1, rule), want[rule]);
            Check.due("18 " + drive + ", own arm, by rule " + rule, x.wouldServe(rule, rule), want[rule]);
        }
    }

    /** Makes so many rounds and tells the cylinders that the arm itself served in them. */
    private static int[] servedIn(ArmDuel x, int rounds) {
        x.run(rounds);
        int[] all = new int[rounds];
        for (int i = 0; i < rounds; i++) {
            all[i] = x.served(rounds - 1 - i, 1);
        }
        return all;
    }

    private static ArmDuel crowded(String text, int many, int cylinder) {
        ArmDuel x = Check.drive(text);
        for (int i = 0; i < many; i++) {
            x.request(cylinder);
        }
        return x;
    }

    /** The cost is 0 at the distance 0 alone; at 1 it is SEEK + PER, and 9900 at most. */
    private static void prices() {
        ArmDuel x = Check.drive("drive 100 0; cost 99 99", 0, 1, 0, 99, 99, 0);
        int[] want = {0, 198, 198, 9900, 0, 9900};
        for (int round = 0; round < want.length; round++) {
            x.run(1);
            Check.due("2 the cost in round " + round, x.cost(-1, round), want[round]);
            Check.due("2 the cost as it was served", x.served(0, 3), want[round]);
        }
        Check.due("16 what it has cost", x.arm(-1, 3), 198 + 198 + 9900 + 9900);
        Check.due("16 the distance", x.arm(-1, 4), 1 + 1 + 99 + 99);
        ArmDuel y = Check.drive("drive 2 1; cost 0 1", 1, 0, 0);
        y.run(3);
        Check.due("16 without SEEK", y.arm(0, 3), 1);
        Check.due("31 no distance", y.cost(0, 0), 0);
        Check.due("31 one cylinder", y.cost(0, 1), 1);
        Check.due("31 it stays there", y.cost(0, 2), 0);
    }

    private static void nothingWaits() {
        ArmDuel x = Check.drive("drive 10 4; cost 9 9" + RULES + "; rival lead; bound 0 0; mix 500 3");
        x.run(2);
        for (int arm = -1; arm < 5; arm++) {
            Check.due("2 nothing is done by " + arm, Check.arm(x, arm), 4, 1, 0, 0, 0, 0, 0);
            Check.due("31 at the cost 0", x.cost(arm, 1), 0);
            Check.due("17 nothing waits", x.waiting(arm, 0, 0), -1);
            Check.due("42 nothing for each round", x.meanCost(arm), 0.0);
        }
        for (int rule = 0; rule < 5; rule++) {
            Check.due("18 nothing would be served", x.wouldServe(-1, rule), -1);
            Check.due("6 the weight stays", x.rule(rule, 2), 1000000);
            Check.due("27 nothing is swapped", x.swapCost(0, rule), 0);
        }
        Check.due("22 nothing was served", x.served(0, 0), -1);
        Check.due("32 a rule is taken all the same", x.taken(1), 0);
        Check.due("6 it counts as taken", x.rule(0, 3), 2);
        Check.due("24 nothing is no breach of 0", Check.regret(x), 0, 0, 0, 0, -1);
        Check.due("30 the rival takes one too", Check.rival(x), 1, 4, 0, 0, 0, 0);
        Check.due("35 of all the lowest leads", x.leads(0), 2);
    }

    /** A round without requests costs nothing also if the one ahead of it did. */
    private static void nothingWaitsAnyMore() {
        ArmDuel x = Check.drive("drive 10 4; cost 9 9; rule fcfs; rule near; rule scan; master keep 0; rival keep 1;"
                + " mix 500 3; foe none", 8, 5);
        x.run(1);
        Check.due("30 the rival cost less", x.rival(4), 1);
        x.run(1);
        int[] weights = {x.rule(0, 2), x.rule(1, 2), x.rule(2, 2)};
        int[] fcfs = Check.rule(x, 0);
        int[] itself = Check.arm(x, -1);
        x.run(3);
        for (int rule = 0; rule < 3; rule++) {
            Check.due("6 the weight stays", x.rule(rule, 2), weights[rule]);
            Check.due("31 nothing", x.cost(rule, 4), 0);
        }
        Check.due("31 nothing", x.cost(-1, 4), 0);
        Check.due("16 nothing changes", Check.arm(x, -1), itself);
        Check.due("6 three rounds more", x.rule(0, 3), fcfs[3] + 3);
        Check.due("6 its own arm costs no more", x.rule(0, 4), fcfs[4]);
        Check.due("6 nor does the arm itself", x.rule(0, 5), fcfs[5]);
        Check.due("30 the rival costs no less", x.rival(4), 1);
        Check.due("22 the latest one stays", x.served(0, 0), 1);
        Check.due("22 nothing behind it", x.served(2, 0), -1);
    }

    private static void bandsAtTheirWidth() {
        ArmDuel x = Check.drive("drive 100 50; rule band 0; rule band 1; rule band 7; rule band 49; rule band 99",
                0, 42, 57, 49, 50);
        Check.due("18 WIDTH 0 is its own cylinder", x.wouldServe(-1, 0), 50);
        Check.due("18 WIDTH 1 is the next one too", x.wouldServe(-1, 1), 49);
        Check.due("18 WIDTH 7 is 57, not 42", x.wouldServe(-1, 2), 57);
        Check.due("18 WIDTH 49 is 42, not 0", x.wouldServe(-1, 3), 42);
        Check.due("18 WIDTH 99 is the oldest one", x.wouldServe(-1, 4), 0);
        ArmDuel y = Check.drive("drive 100 50; rule band 0; rule band 1", 48, 52, 70);
        Check.due("18 none within 0, so the oldest one", y.wouldServe(-1, 0), 48);
        Check.due("18 none within 1, so the oldest one", y.wouldServe(-1, 1), 48);
        ArmDuel z = Check.drive("drive 100 0; rule band 99; rule band 98", 99, 98);
        Check.due("18 99 is within 99", z.wouldServe(-1, 0), 99);
        Check.due("18 99 is not within 98", z.wouldServe(-1, 1), 98);
    }

    /** The rules for an arm at the first cylinder, at the last one, and in a drive of two. */
    private static void endsOfTheDrive() {
        would("drive 10 0", new int[] {9}, 9, 9, 9, 9, 9);
        would("drive 10 0", new int[] {9, 0}, 9, 0, 0, 0, 0);
        would("drive 10 0", new int[] {9, 4, 3}, 9, 3, 3, 3, 3);
        would("drive 10 9", new int[] {0}, 0, 0, 0, 0, 0);
        would("drive 10 9", new int[] {0, 5, 8}, 0, 8, 8, 0, 8);
        would("drive 10 9", new int[] {5, 0, 9}, 5, 9, 9, 9, 9);
        would("drive 2 0", new int[] {1, 0}, 1, 0, 0, 0, 1);
        would("drive 2 1", new int[] {0, 1}, 0, 1, 1, 1, 0);
        would("drive 3 1", new int[] {2, 0}, 2, 0, 2, 2, 2);
        would("drive 3 1", new int[] {0, 2}, 0, 0, 2, 2, 0);
        would("drive 100 50", new int[] {99, 1}, 99, 1, 99, 99, 99);
        would("drive 100 50", new int[] {0, 99}, 0, 99, 99, 99, 0);
        would("drive 100 50", new int[] {1, 99}, 1, 1, 99, 99, 1);
        ArmDuel scan = Check.drive("drive 10 9; rule scan", 0, 4, 9, 9, 2);
        Check.due("22 scan from the last cylinder", servedIn(scan, 5), 9, 9, 4, 2, 0);
        Check.due("16 it turned once", scan.arm(-1, 1), 0);
        scan.request(0);
        scan.request(1);
        Check.due("22 scan from the first cylinder", servedIn(scan, 2), 0, 1);
        Check.due("16 it turned again", scan.arm(-1, 1), 1);
        ArmDuel wrap = Check.drive("drive 10 9; rule wrap", 8, 0, 9, 3);
        Check.due("22 wrap from the last cylinder", servedIn(wrap, 4), 9, 0, 3, 8);
    }

    /** Directions turn by scan alone, and stay with an arm. */
    private static void directionsStay() {
        for (int rule = 0; rule < 5; rule++) {
            ArmDuel up = Check.drive("drive 20 9" + RULES + "; master keep " + rule, 3);
            up.run(1);
            Check.due("16 downward by rule " + rule, up.arm(-1, 1), rule == 2 ? 0 : 1);
            Check.due("16 its own arm", up.arm(rule, 1), rule == 2 ? 0 : 1);
            ArmDuel down = Check.drive("drive 20 9" + RULES + "; master keep 2", 3);
            down.run(1);
            down.setMaster(2, rule);
            down.request(12);
            down.run(1);
            Check.due("16 upward by rule " + rule, down.arm(-1, 1), rule == 2 ? 1 : 0);
            Check.due("16 at 12", down.arm(-1, 0), 12);
            down.request(5);
            down.request(15);
            Check.due("18 scan has its direction behind rule " + rule, down.wouldServe(-1, 2), rule == 2 ? 15 : 5);
            Check.due("18 the own arm of scan is up", down.wouldServe(2, 2), 15);
            Check.due("18 the own arm of near is up", down.wouldServe(1, 2), 15);
        }
    }

    private static void nothingTurnsWithoutRequests() {
        ArmDuel x = Check.drive("drive 10 5; rule scan");
        x.run(3);
        Check.due("16 still up", Check.arm(x, -1), 5, 1, 0, 0, 0, 0, 0);
        x.request(2);
        x.run(4);
        Check.due("16 still down", x.arm(-1, 1), 0);
        Check.due("16 its own arm too", x.arm(0, 1), 0);
        x.request(2);
        x.run(1);
        Check.due("16 a request at its cylinder turns nothing", x.arm(-1, 1), 0);
    }

    /** 20 requests for one cylinder are served by their age, by each rule; so are those of one round. */
    private static void oldestOfMany() {
        for (int rule = 0; rule < 5; rule++) {
            ArmDuel x = Check.drive("drive 10 5" + RULES + "; master keep " + rule);
            for (int round = 0; round < 4; round++) {
                for (int i = 0; i < 6; i++) {
                    x.request(7);
                }
                x.run(1);
            }
            Check.due("17 19 wait", x.arm(-1, 2), 19);
            for (int i = 0; i < 19; i++) {
                Check.due("17 the round of request " + i, x.waiting(-1, i, 1), (i + 4) / 6);
                Check.due("17 for the own arm", x.waiting(rule, i, 1), (i + 4) / 6);
            }
            x.run(19);
            for (int i = 0; i < 19; i++) {
                Check.due("22 the oldest by rule " + rule, x.served(18 - i, 2), (i + 4) / 6);
            }
            Check.due("16 the longest wait", x.arm(-1, 5), 19);
        }
        // The request of the foe is younger than those that came ahead of the round.
        ArmDuel y = Check.drive("drive 10 5; rule fcfs; foe ends", 3, 8);
        y.run(1);
        Check.due("17 the foe came last", Check.waiting(y, 0), 8, 9);
        Check.due("17 in round 0 too", y.waiting(-1, 1, 1), 0);
    }

    /** A foe adds a request if 19 wait, and none if 20 do. */
    private static void foesAtTheLimit() {
        String[] foes = {"none", "far", "mirror", "ends", "list", "hurt"};
        int[] adds = {4, 9, 5, 9, 7, 0};
        for (int foe = 0; foe < 6; foe++) {
            String text = "drive 10 4; rule fcfs; rule near; rival keep 1; ask 7; foe " + foes[foe];
            ArmDuel x = crowded(text, 19, 4);
            x.run(1);
            Check.due("3 behind 19 by " + foes[foe], x.arm(-1, 2), foe == 0 ? 18 : 19);
            Check.due("3 the latest one", x.waiting(-1, foe == 0 ? 17 : 18, 0), adds[foe]);
            Check.due("3 for an own arm", x.waiting(1, foe == 0 ? 17 : 18, 0), adds[foe]);
            ArmDuel y = crowded(text, 20, 4);
            y.run(1);
            Check.due("3 behind 20 by " + foes[foe], y.arm(-1, 2), 19);
            Check.due("3 it added none", y.waiting(-1, 18, 0), 4);
            Check.due("5 it did not ask", y.setting(14), 0);
            y.run(1);
            Check.due("3 now it can add one", y.waiting(-1, foe == 0 ? 17 : 18, 0), foe == 3 ? 0 : adds[foe]);
        }
        ArmDuel empty = Check.drive("drive 10 4; foe far");
        Check.due("3 a foe begins with nothing", servedIn(empty, 1), 9);
    }

    private static int farFrom(int cylinders, int start) {
        return servedIn(Check.drive("drive " + cylinders + " " + start + "; foe far"), 1)[0];
    }

    private static void foeFar() {
        Check.due("9 of two, from 0", farFrom(2, 0), 1);
        Check.due("9 of two, from 1", farFrom(2, 1), 0);
        Check.due("9 of three, from the middle", farFrom(3, 1), 0);
        Check.due("9 of 99, from the middle", farFrom(99, 49), 0);
        Check.due("9 of 99, just below the middle", farFrom(99, 48), 98);
        Check.due("9 of 100, just below the middle", farFrom(100, 49), 99);
        Check.due("9 of 100, just above the middle", farFrom(100, 50), 0);
        Check.due("9 from the first cylinder", farFrom(100, 0), 99);
        Check.due("9 from the last cylinder", farFrom(100, 99), 0);
    }

    private static void foeMirrorAndEnds() {
        Check.due("9 mirror of the last cylinder", servedIn(Check.drive("drive 100 99; foe mirror"), 2), 0, 99);
        Check.due("9 mirror in a drive of two", servedIn(Check.drive("drive 2 0; foe mirror"), 3), 1, 0, 1);
        Check.due("9 mirror in the middle of three", servedIn(Check.drive("drive 3 1; foe mirror"), 2), 1, 1);
        Check.due("9 ends of a drive of two", servedIn(Check.drive("drive 2 0; foe ends"), 3), 1, 0, 1);
        ArmDuel x = Check.drive("drive 10 3");
        for (int i = 0; i < 4; i++) {
            x.run(200);
        }
        x.run(198);
        x.setFoe(3);
        Check.due("9 ends in the rounds 998 and 999", servedIn(x, 2), 9, 0);
        x = Check.drive("drive 10 3; foe ends");
        x.run(1);
        Check.due("3 the rounds begin anew", Check.load(x, "drive 7 3; foe ends"), 1);
        Check.due("9 ends begins with the last cylinder", servedIn(x, 2), 6, 0);
    }

    private static void foeList() {
        Check.due("9 a list of one", servedIn(Check.drive("drive 10 3; foe list; ask 7"), 3), 7, 7, 7);
        ArmDuel x = Check.drive("drive 20 0; foe list");
        for (int i = 0; i < 16; i++) {
            x.addAsk(i + 2);
        }
        int[] want = new int[18];
        for (int i = 0; i < 18; i++) {
            want[i] = i % 16 + 2;
        }
        Check.due("9 a list of 16, and anew from the number 0", servedIn(x, 18), want);
        ArmDuel bare = Check.drive("drive 20 0; foe list");
        bare.run(2);
        Check.due("9 none without asks", bare.arm(-1, 6), 0);
        bare.addAsk(4);
        Check.due("9 the number 0 at first", servedIn(bare, 1), 4);
        bare.addAsk(5);
        Check.due("9 what is added behind the last one comes next", servedIn(bare, 1), 5);
        Check.due("9 and then the number 0", servedIn(bare, 2), 4, 5);
        for (int foe = 0; foe < 6; foe++) {
            ArmDuel y = Check.drive("drive 20 0; foe list; ask 4; ask 5; ask 6");
            y.run(2);
            y.setFoe(foe);
            y.run(foe == 4 ? 3 : 5);
            y.setFoe(4);
            Check.due("9 the place stays while the foe is " + foe, servedIn(y, 2), 6, 4);
        }
        ArmDuel told = Check.drive("drive 20 0; foe list; ask 4; ask 5");
        told.run(1);
        Check.load(told, "drive 20 0; foe list; ask 8; ask 9");
        Check.due("3 the list begins anew", servedIn(told, 1), 8);
    }

    /** hurt asks N times at most; with one rule all cylinders hurt alike, so it asks for 0, and list for 7 and 8. */
    private static void budgets() {
        int[][] want = {{7, 8, 7, 8}, {0, 7, 8, 7}, {0, 0, 7, 8}, {0, 0, 0, 7}, {0, 0, 0, 0}, {0, 0, 0, 0}};
        for (int budget = 0; budget < 6; budget++) {
            ArmDuel x = Check.drive("drive 10 4; foe hurt; ask 7; ask 8; budget " + budget);
            Check.due("12 the budget " + budget, servedIn(x, 4), want[budget]);
            Check.due("5 so often it asked", x.setting(14), Math.min(budget, 4));
            Check.due("12 the previous one", x.setBudget(budget), budget);
            Check.due("5 it begins anew", x.setting(14), 0);
            x.run(4);
            Check.due("5 so often again", x.setting(14), Math.min(budget, 4));
        }
        ArmDuel none = Check.drive("drive 10 4; foe hurt; ask 7");
        Check.due("12 without a budget", servedIn(none, 12), new int[12]);
        Check.due("5 counted all the same", none.setting(14), 12);
        none.setFoe(2);
        none.run(1);
        none.setFoe(5);
        Check.due("5 another foe does not count", none.setting(14), 12);
        Check.due("12 it is set to as much as was asked", none.setBudget(12), -1);
        none.run(13);
        Check.due("12 and counts from there on", none.setting(14), 12);
        Check.due("12 list asked then", none.served(0, 1), 7);
        ArmDuel most = Check.drive("drive 2 0; foe hurt; budget 999; ask 1");
        for (int i = 0; i < 5; i++) {
            most.run(200);
        }
        Check.due("5 999 of 1000 rounds", most.setting(14), 999);
        Check.due("22 list asked in the last one", most.served(0, 1), 1);
        Check.due("22 hurt in the one ahead of it", most.served(1, 1), 0);
        Check.load(most, "drive 2 0; budget 5");
        Check.due("5 the count begins anew", most.setting(14), 0);
    }

    private static void budgetsAndFullRounds() {
        ArmDuel x = crowded("drive 10 0; foe hurt; budget 1; ask 9; ask 8", 20, 5);
        x.run(1);
        Check.due("5 a full round does not count", x.setting(14), 0);
        x.request(5);
        x.run(1);
        Check.due("5 nor does another one", x.setting(14), 0);
        x.run(1);
        Check.due("5 the first with room does", x.setting(14), 1);
        Check.due("17 hurt asked", x.waiting(-1, 18, 0), 0);
        x.run(1);
        Check.due("17 list asked then", x.waiting(-1, 18, 0), 9);
        Check.due("5 that does not count", x.setting(14), 1);
        ArmDuel bare = Check.drive("drive 10 0; foe hurt; budget 1", 5);
        bare.run(4);
        Check.due("3 none is added without asks", bare.arm(-1, 6), 2);
        Check.due("5 once", bare.setting(14), 1);
        bare.addAsk(6);
        Check.due("3 an ask that is added then", servedIn(bare, 1), 6);
        ArmDuel saved = Check.drive("drive 10 0; foe hurt; budget 2; ask 6");
        saved.run(1);
        saved.saveSnapshot(0);
        saved.run(1);
        saved.restoreSnapshot(0);
        Check.due("56 the count of then", saved.setting(14), 1);
        Check.due("56 one is left", servedIn(saved, 2), 0, 6);
    }

    /** Two weights of 1954: X is below 1954 for the rule 0, and 1954 is rule 1. */
    private static void drawsAtTheSum() {
        int[] dues = {0, 0, 0, 0, 0, 1, 1, 1};
        int[] places = {0, 1, 977, 1952, 1953, 1954, 1955, 3907};
        for (int i = 0; i < places.length; i++) {
            int seed = 0;
            while (seed < 32768 && (1103 * seed + 12345) % 32768 % 3908 != places[i]) {
                seed++;
            }
            Check.due("the test found a seed for " + places[i], seed < 32768 ? 1 : 0, 1);
            ArmDuel x = Check.drive("drive 2 0; cost 5 9; rule fcfs; rule scan; mix 500 " + seed
                    + "; foe ends; rival draw");
            x.run(9);
            x.setFoe(0);
            Check.due("6 the weight of rule 0", x.rule(0, 2), 1954);
            Check.due("6 the weight of rule 1", x.rule(1, 2), 1954);
            x.setMaster(0, 0);
            Check.due("21 X of " + places[i], x.nextRule(), dues[i]);
            x.run(1);
            Check.due("32 X of " + places[i], x.taken(9), dues[i]);
            Check.due("5 the seed behind it", x.setting(8) % 3908, places[i]);
        }
        // Even weights of 1000000 are more than any seed, so the first rule is drawn always.
        ArmDuel even = Check.drive("drive 9 0; rule fcfs; rule near; rule scan; master draw; mix 1 32767");
        for (int i = 0; i < 30; i++) {
            even.run(1);
            Check.due("21 the first one of even weights", even.taken(i), 0);
        }
    }

    /** The arm itself and a rival that draw from the beginning draw alike, also when nothing waits. */
    private static void drawsWithoutRequests() {
        ArmDuel x = Check.drive("drive 9 4; cost 3 1; rule fcfs; rule near; rule scan; mix 500 5; foe far; master draw;"
                + " rival draw", 2, 6);
        x.run(11);
        x.setFoe(0);
        x.run(3);
        Check.due("16 nothing waits", x.arm(-1, 2), 0);
        int seen = 0;
        for (int round = 14; round < 60; round++) {
            x.run(1);
            int rule = x.taken(round);
            seen |= 1 << rule;
            Check.due("30 the rival drew alike in round " + round, x.rival(5), rule);
        }
        Check.due("the test drew two rules", seen, 3);
    }

    private static void seeds() {
        int[] seeds = {0, 1, 17, 16384, 32766, 32767};
        for (int first : seeds) {
            ArmDuel x = Check.drive("drive 9 0; rule fcfs; rule near; master draw; mix 100 " + first);
            long seed = first;
            Check.due("5 the seed told", x.setting(8), seed);
            for (int round = 0; round < 12; round++) {
                seed = (1103 * seed + 12345) & 32767;
                x.nextRule();
                x.run(1);
                Check.due("5 the seed behind round " + round, x.setting(8), seed);
            }
            x.setMaster(2, 1);
            x.run(2);
            Check.due("5 no draw by keep", x.setting(8), seed);
            x.setMaster(1, 1);
            x.run(2);
            Check.due("5 no draw by lead", x.setting(8), seed);
            x.setMaster(0, 1);
            x.run(1);
            Check.due("5 it goes on", x.setting(8), (1103 * seed + 12345) & 32767);
        }
        // A seed behind which the seed becomes 0.
        int zero = 0;
        while ((1103 * zero + 12345) % 32768 != 0) {
            zero++;
        }
        ArmDuel x = Check.drive("drive 9 0; rule near; rule fcfs; master draw; mix 100 " + zero);
        x.run(1);
        Check.due("5 the seed 0", x.setting(8), 0);
        Check.due("32 X of 0", x.taken(0), 0);
        x.run(1);
        Check.due("5 behind the seed 0", x.setting(8), 12345);
    }

    private static void leads() {
        ArmDuel x = Check.drive("drive 20 5; rule fcfs; rule near; rule scan; rule near; master lead; rival lead",
                9, 6);
        Check.due("21 of all the lowest", x.nextRule(), 0);
        x.run(1);
        Check.due("21 of near, scan and near the lowest", x.nextRule(), 1);
        Check.due("25 the best one", x.best(), 1);
        Check.due("30 the rival took the lowest", x.rival(5), 0);
        x.run(1);
        Check.due("32 the one that led ahead of it", x.taken(1), 1);
        Check.due("30 the rival took it too", x.rival(5), 1);
    }

    /** W * ETA * C / (1000 * L) is rounded toward 0, and a weight is at least 1. */
    private static void weights() {
        ArmDuel x = Check.drive("drive 100 0; cost 99 99; rule fcfs; mix 500 1", 99);
        x.run(1);
        Check.due("6 half of it is the most to lose", x.rule(0, 2), 500000);
        ArmDuel least = Check.drive("drive 100 0; cost 0 1; rule fcfs; mix 1 1", 1, 1, 3);
        least.run(1);
        Check.due("6 10 and a part of it", least.rule(0, 2), 1000000 - 10);
        least.run(1);
        Check.due("6 nothing for the distance 0", least.rule(0, 2), 999990);
        least.run(1);
        Check.due("6 20 and a part of it", least.rule(0, 2), 999990 - 20);
        ArmDuel z = Check.drive("drive 10 9; rule near; rule fcfs; mix 500 1; foe ends", 0, 9);
        for (int round = 0; round < 40; round++) {
            z.run(1);
            Check.due("6 at least 1", z.rule(1, 2) >= 1 ? 1 : 0, 1);
        }
        int near = z.rule(0, 2);
        Check.due("6 no less than 1", z.rule(1, 2), 1);
        Check.due("43 the share of it", z.share(1), 1.0f / (float) (near + 1));
        Check.due("15 the weight of rule 0 before", z.evenWeights(), near);
        Check.due("43 even again", z.share(1), 0.5f);
    }

    /** All weights become 1000 times as great if the greatest is less than 1000, those at 1 as well. */
    private static void weightsRaised() {
        ArmDuel x = Check.drive("drive 3 0; cost 99 1; rule fcfs; rule wrap; rule scan; mix 500 5; foe list; ask 2;"
                + " ask 0; ask 1; ask 0", 0);
        long[] weights = {1000000, 1000000, 1000000};
        int raised = 0;
        int apart = 0;
        for (int round = 0; round < 60; round++) {
            x.run(1);
            long greatest = 0;
            for (int rule = 0; rule < 3; rule++) {
                weights[rule] -= weights[rule] * 500 * x.cost(rule, round) / (1000 * 101);
                weights[rule] = Math.max(1, weights[rule]);
                greatest = Math.max(greatest, weights[rule]);
            }
            raised += greatest < 1000 ? 1 : 0;
            for (int rule = 0; rule < 3; rule++) {
                weights[rule] *= greatest < 1000 ? 1000 : 1;
                apart += weights[rule] == weights[0] ? 0 : 1;
                Check.due("6 the weight of " + rule + " behind " + round, x.rule(rule, 2), weights[rule]);
            }
        }
        Check.due("the test raised some weights", raised > 1 && apart > 20 ? 1 : 0, 1);
    }

    private static void requestsAtTheLimit() {
        ArmDuel x = Check.drive("drive 2 0; rule fcfs; rule near; rival keep 1");
        for (int i = 0; i < 5; i++) {
            x.run(200);
        }
        Check.due("8 behind 1000 rounds", x.request(1), 1);
        Check.due("8 its round is 1000", x.waiting(-1, 0, 1), 1000);
        for (int i = 1; i < 20; i++) {
            Check.due("8 one more", x.request(i % 2), i + 1);
        }
        for (int i = 0; i < 3; i++) {
            Check.due("8 20 wait", x.request(0), ArmDuel.FULL);
        }
        for (int arm = -1; arm < 2; arm++) {
            Check.due("16 20 wait for " + arm, x.arm(arm, 2), 20);
            Check.due("17 the last of " + arm, x.waiting(arm, 19, 0), 1);
            Check.due("17 none behind it", x.waiting(arm, 20, 0), -1);
            Check.due("17 none ahead of the first", x.waiting(arm, -1, 1), -1);
        }
        Check.due("46 20 wait", x.hurtOf(1), NO_VALUE);
        Check.due("47 20 wait", x.worst(), -1);
    }

    private static void waits() {
        ArmDuel x = Check.drive("drive 10 5; rule fcfs; rule near", 9, 5, 5);
        x.run(1);
        Check.due("16 served in the round in which it came", x.arm(-1, 5), 0);
        x.run(1);
        Check.due("16 one round later", x.arm(-1, 5), 1);
        x.run(5);
        Check.due("16 two rounds later", x.arm(-1, 5), 2);
        Check.due("16 near let 9 wait", x.arm(1, 5), 2);
        x.request(3);
        x.run(1);
        Check.due("16 the greatest stays", x.arm(-1, 5), 2);
        // Requests for 0 are starved by near for as long as the foe asks nearer.
        ArmDuel y = Check.drive("drive 10 9; rule near; foe list; ask 9", 0);
        y.run(50);
        Check.due("16 it waits still", y.arm(0, 5), 0);
        y.setFoe(0);
        y.run(1);
        Check.due("16 it waited 50 rounds", y.arm(0, 5), 50);
        Check.due("22 and came in round 0", y.served(0, 2), 0);
    }

    /** The latest 20 are kept: 19, 20 and 21 are served; the ring goes round twice. */
    private static void servedOnes() {
        ArmDuel x = Check.drive("drive 100 0; foe list; ask 1; ask 2; ask 3; ask 4; ask 5; ask 6; ask 7");
        for (int round = 1; round <= 45; round++) {
            x.run(1);
            int kept = Math.min(round, 20);
            Check.due("22 the latest", x.served(0, 0), round - 1);
            Check.due("22 the earliest that is kept", x.served(kept - 1, 0), round - kept);
            Check.due("22 its cylinder", x.served(kept - 1, 1), (round - kept) % 7 + 1);
            Check.due("22 none behind it", x.served(kept, 0), -1);
            Check.due("22 none at 20", x.served(20, 4), -1);
        }
        x.setFoe(0);
        x.run(3);
        Check.due("22 a round without requests keeps all", x.served(0, 0), 44);
        Check.due("22 and the earliest one", x.served(19, 0), 25);
    }

    private static void tours() {
        ArmDuel x = Check.drive("drive 100 50");
        for (int many = 0; many <= 8; many++) {
            Check.due("19 all that wait", x.optimum(many), many == 0 ? 0 : 5 * many);
            Check.due("19 fewer wait", x.optimum(Math.min(8, many + 1)), many == 8 ? 40 : -1);
            if (many > 0) {
                Check.due("20 the last place", x.optimumAt(many, many - 1), many - 1);
                Check.due("20 no place behind it", x.optimumAt(many, many), -1);
                Check.due("20 no place ahead", x.optimumAt(many, -1), -1);
            }
            if (many < 8) {
                Check.due("20 fewer wait", x.optimumAt(many + 1, 0), -1);
                x.request(55 + 5 * many);
            }
        }
        for (int i = 8; i < 20; i++) {
            x.request(0);
        }
        Check.due("19 the oldest 8 of 20", x.optimum(8), 40);
        Check.due("20 the last of them", x.optimumAt(8, 7), 7);
        ArmDuel same = Check.drive("drive 100 50; cost 99 1", 50, 50, 50, 50, 50, 50, 50, 50);
        Check.due("19 at one cylinder", same.optimum(8), 0);
        Check.due("20 of all orders the first", Check.tour(same, 8), 0, 1, 2, 3, 4, 5, 6, 7);
        ArmDuel two = Check.drive("drive 100 50; cost 99 99", 0, 99, 0, 99, 0, 99, 0, 99);
        Check.due("19 both ends", two.optimum(8), 99 + 99 * 49 + 99 + 99 * 99);
        Check.due("20 the nearer end first", Check.tour(two, 8), 1, 3, 5, 7, 0, 2, 4, 6);
        ArmDuel down = Check.drive("drive 99 49; cost 3 2", 0, 98);
        Check.due("19 both ends as far", down.optimum(2), 3 + 98 + 3 + 196);
        Check.due("20 of both orders the first, down", Check.tour(down, 2), 0, 1);
        ArmDuel up = Check.drive("drive 99 49; cost 3 2", 98, 0, 49);
        Check.due("19 and the one where it stands", up.optimum(3), 3 + 98 + 3 + 196);
        Check.due("20 of both orders the first, up", Check.tour(up, 2), 0, 1);
        Check.due("20 where it stands first", Check.tour(up, 3), 2, 0, 1);
    }

    private static void asksAndSettings() {
        ArmDuel x = new ArmDuel();
        for (int i = 0; i < 16; i++) {
            Check.due("7 not yet", x.ask(i), -1);
            Check.due("14 its number", x.addAsk(i % 10), i);
            Check.due("7 now", x.ask(i), i % 10);
            Check.due("5 so many", x.setting(10), i + 1);
        }
        Check.due("14 no 17th", x.addAsk(0), ArmDuel.FULL);
        Check.due("14 no 17th again", x.addAsk(9), ArmDuel.FULL);
        Check.due("5 still 16", x.setting(10), 16);
        Check.due("7 number 16", x.ask(16), -1);
        Check.due("7 number -1", x.ask(-1), -1);
        Check.due("11 the greatest ETA", x.setEta(500), 100);
        Check.due("11 the least ETA", x.setEta(1), 500);
        Check.due("12 the greatest budget", x.setBudget(999), -1);
        Check.due("12 the least budget", x.setBudget(0), 999);
        Check.due("12 none", x.setBudget(-1), 0);
        Check.due("5 none", x.setting(13), -1);
        Check.due("13 the greatest bound", x.setBound(99999, 9999), -1);
        Check.due("24 behind no rounds", x.regret(1), 99999);
        Check.due("13 the least bound", x.setBound(0, 0), 99999);
        Check.due("24 of 0", x.regret(1), 0);
        Check.due("5 BASE", x.setting(11), 0);
        Check.due("5 ROOT", x.setting(12), 0);
    }
}
