/** Promises 23 to 43: costs and regret. */
final class CostTests {
    private static final int NO_VALUE = ArmDuel.NO_VALUE;
    private static final int FAR_OFF = Integer.MAX_VALUE;

    private CostTests() {
    }

    static void run() {
        promise23();
        promise24();
        promise24Bound();
        promise24Negative();
        promise25();
        promise26();
        promise27();
        promise28();
        promise29();
        promise30();
        promise30Kinds();
        promise31();
        promise32();
        promise33();
        promise34();
        promise35();
        promise36();
        promise37();
        promise38();
        promise39();
        promise40();
        promise41();
        promise42();
        promise43();
        theLastRounds();
    }

    /** Three rounds, of which fcfs pays 29, 26 and 23, and near 5, 23 and 5; fcfs is kept. */
    private static ArmDuel keptFcfs(String more) {
        ArmDuel x = Check.drive("drive 10 0; cost 2 3; rule fcfs; rule near" + more, 9, 1, 8);
        x.run(3);
        return x;
    }

    /**
     * Six rounds: near is taken in three, then fcfs. The arm itself pays 8 2 2 3 5 6, fcfs pays
     * 10 2 4 3 5 6, and near pays 8 2 2 2 5 11.
     */
    private static ArmDuel nearThenFcfs(String more) {
        ArmDuel x = Check.drive("drive 20 0; rule fcfs; rule near; master keep 1" + more, 10, 8, 12);
        x.run(3);
        x.request(15);
        x.request(10);
        x.request(4);
        x.setMaster(2, 0);
        x.run(3);
        return x;
    }

    private static void promise23() {
        ArmDuel x = new ArmDuel();
        Check.due("23 none", x.rounds(), 0);
        x.run(7);
        Check.due("23 seven", x.rounds(), 7);
        x.request(3);
        Check.due("23 a request makes none", x.rounds(), 7);
    }

    private static void promise24() {
        // Behind the rounds the regret is 24, 27 and 45, the bound 26 each time.
        ArmDuel x = keptFcfs("; bound 25 1");
        Check.due("24 regret", Check.regret(x), 45, 26, 2, 45, 1);
        x.run(1);
        Check.due("24 behind a round without requests", Check.regret(x), 45, 27, 3, 45, 1);
        x.setBound(45, 0);
        x.run(1);
        Check.due("24 as great as the bound is no breach", Check.regret(x), 45, 45, 3, 45, 1);
        x.setBound(44, 0);
        Check.due("24 the bound of now", x.regret(1), 44);
        Check.due("24 breaches come with rounds", x.regret(2), 3);
        x.run(1);
        Check.due("24 one more breach", Check.regret(x), 45, 44, 4, 45, 1);
        Check.due("24 without a bound", Check.regret(keptFcfs("")), 45, NO_VALUE, 0, 45, -1);
        Check.due("24 the first round", keptFcfs("; bound 0 0").regret(4), 0);
        Check.argument("24 what 5", () -> x.regret(5));
        Check.argument("24 what -1", () -> x.regret(-1));
    }

    private static void promise24Bound() {
        ArmDuel x = Check.drive("drive 10 0; bound 7 100");
        int[] roots = {0, 1, 1, 1, 2, 2, 2, 2, 2, 3, 3};
        for (int rounds = 0; rounds < roots.length; rounds++) {
            Check.due("24 the bound behind " + rounds, x.regret(1), 7 + 100 * roots[rounds]);
            x.run(1);
        }
        x.run(88);
        Check.due("24 the bound behind 99", x.regret(1), 907);
        x.run(1);
        Check.due("24 the bound behind 100", x.regret(1), 1007);
        x.setBound(99999, 9999);
        Check.due("24 the greatest bound of 100", x.regret(1), 99999 + 99990);
    }

    private static void promise24Negative() {
        ArmDuel x = nearThenFcfs("; bound 0 0");
        Check.due("24 a negative regret", Check.regret(x), -4, 0, 2, 1, 3);
        ArmDuel y = Check.drive("drive 20 5; rule fcfs; rule near", 8, 6, 9);
        y.run(1);
        y.setMaster(2, 1);
        y.run(1);
        Check.due("24 the greatest of the first round", Check.regret(y), 1, NO_VALUE, 0, 2, -1);
    }

    private static void promise25() {
        ArmDuel x = Check.drive("drive 20 0; rule fcfs; rule near; master keep 1", 10, 8, 12);
        Check.due("25 of all the lowest", x.best(), 0);
        x.run(1);
        Check.due("25 near", x.best(), 1);
        Check.due("25 fcfs, of both the lowest", nearThenFcfs("").best(), 0);
        Check.due("25 the second of three", Check.drive("drive 9 0; rule near; rule near").best(), 0);
    }

    private static void promise26() {
        ArmDuel x = nearThenFcfs("");
        Check.due("26 to fcfs", x.regretTo(0), -4);
        Check.due("26 to near", x.regretTo(1), -4);
        ArmDuel y = keptFcfs("");
        Check.due("26 to the rule that was kept", y.regretTo(0), 0);
        Check.due("26 to the other one", y.regretTo(1), 45);
        Check.index("26 rule 2", () -> y.regretTo(2));
        Check.index("26 rule -1", () -> y.regretTo(-1));
    }

    private static void promise27() {
        ArmDuel x = nearThenFcfs("");
        Check.due("27 near for near", x.swapCost(1, 1), 8 + 2 + 2);
        Check.due("27 fcfs for near", x.swapCost(1, 0), 10 + 2 + 2);
        Check.due("27 fcfs for fcfs", x.swapCost(0, 0), 3 + 5 + 6);
        Check.due("27 near for fcfs", x.swapCost(0, 1), 2 + 5 + 6);
        x.run(5);
        Check.due("27 nothing without requests", x.swapCost(0, 1), 13);
        ArmDuel y = Check.drive("drive 20 5; cost 7 2; rule scan; rule near; rule wrap; rule band 1; foe ends", 4);
        y.run(1);
        Check.due("27 with the request of the foe, scan", y.swapCost(0, 0), 7 + 28);
        Check.due("27 near", y.swapCost(0, 1), 7 + 2);
        Check.due("27 wrap", y.swapCost(0, 2), 7 + 28);
        Check.due("27 band", y.swapCost(0, 3), 7 + 2);
        Check.due("27 a rule that was not taken", y.swapCost(1, 0), 0);
        Check.index("27 rule 4", () -> y.swapCost(4, 0));
        Check.index("27 rule -1", () -> y.swapCost(-1, 0));
        Check.index("27 other 4", () -> y.swapCost(0, 4));
        Check.index("27 other -1", () -> y.swapCost(0, -1));
    }

    private static void promise28() {
        Check.due("28 a new object", new ArmDuel().swapRegret(), 0);
        Check.due("28 fcfs for near alone", keptFcfs("").swapRegret(), 78 - 15 - 18);
        Check.due("28 near for fcfs", nearThenFcfs("").swapRegret(), 1);
    }

    private static void promise29() {
        ArmDuel x = nearThenFcfs("");
        Check.due("29 for fcfs", x.bestSwap(0), 1);
        Check.due("29 for near", x.bestSwap(1), 1);
        ArmDuel y = keptFcfs("; rule near");
        Check.due("29 of several the lowest", y.bestSwap(0), 1);
        Check.due("29 for one that was not taken", y.bestSwap(2), 0);
        Check.index("29 rule 3", () -> y.bestSwap(3));
        Check.index("29 rule -1", () -> y.bestSwap(-1));
    }

    private static void promise30() {
        ArmDuel x = nearThenFcfs("; rival lead");
        // It takes fcfs once, of both the lowest, and then near: 10 2 4 2 5 11.
        Check.due("30 lead", Check.rival(x), 1, 4, 34, 4, 1, 1);
        ArmDuel y = nearThenFcfs("; rival keep 0");
        Check.due("30 keep", Check.rival(y), 2, 4, 30, 0, 0, 0);
        ArmDuel z = Check.drive("drive 10 6; rule fcfs; rule near; rival keep 1; foe far", 9, 5);
        Check.due("30 ahead of the first round", Check.rival(z), 2, 6, 0, 0, 0, -1);
        z.run(2);
        Check.due("30 behind two rounds", Check.rival(z), 2, 9, 5, 0, 1, 1);
        Check.argument("30 what 6", () -> z.rival(6));
        Check.argument("30 what -1", () -> z.rival(-1));
        ArmDuel none = new ArmDuel();
        Check.due("30 none", Check.rival(none), NO_VALUE, NO_VALUE, NO_VALUE, NO_VALUE, NO_VALUE, NO_VALUE);
        Check.argument("30 what 6 without a rival", () -> none.rival(6));
        Check.argument("30 what -1 without a rival", () -> none.rival(-1));
    }

    private static void promise30Kinds() {
        // The rival draws by a seed of its own, and the arm itself by its own one.
        ArmDuel x = Check.drive("drive 10 0; rule near; rule fcfs; rule scan; rival draw; mix 1 9");
        int seed = 9;
        for (int round = 0; round < 20; round++) {
            seed = (1103 * seed + 12345) % 32768;
            x.run(1);
            Check.due("30 drawn in round " + round, x.rival(5), seed % 3000000 / 1000000);
        }
        Check.due("30 the seed of the arm itself stays", x.setting(8), 9);
        x.setMaster(0, 0);
        x.run(1);
        Check.due("30 the draw of the arm itself", x.setting(8), 1103 * 9 + 12345);
        ArmDuel even = Check.drive("drive 3 0; rule near; rule fcfs; rule scan; rival draw; mix 500 9; foe ends");
        int[] taken = new int[3];
        for (int round = 0; round < 60; round++) {
            even.run(1);
            int rule = even.rival(5);
            taken[rule]++;
        }
        Check.due("30 it draws by weights", taken[0] > 0 && taken[1] > 0 && taken[2] > 0 ? 1 : 0, 1);
    }

    private static void promise31() {
        ArmDuel x = nearThenFcfs("");
        int[][] want = {{8, 2, 2, 3, 5, 6}, {10, 2, 4, 3, 5, 6}, {8, 2, 2, 2, 5, 11}};
        for (int arm = -1; arm < 2; arm++) {
            for (int round = 0; round < 6; round++) {
                Check.due("31 cost of arm " + arm + " in " + round, x.cost(arm, round), want[arm + 1][round]);
            }
            Check.due("31 round 6", x.cost(arm, 6), NO_VALUE);
        }
        Check.due("31 round -1", x.cost(-1, -1), NO_VALUE);
        Check.due("31 round far off", x.cost(0, FAR_OFF), NO_VALUE);
        Check.due("31 round far below", x.cost(0, Integer.MIN_VALUE), NO_VALUE);
        x.run(1);
        Check.due("31 a round without requests", x.cost(-1, 6), 0);
        Check.index("31 arm 2", () -> x.cost(2, 0));
        Check.index("31 arm -2", () -> x.cost(-2, 0));
        Check.index("31 arm 2 in a round that was not made", () -> x.cost(2, 9));
    }

    private static void promise32() {
        ArmDuel x = nearThenFcfs("");
        int[] taken = new int[6];
        for (int round = 0; round < 6; round++) {
            taken[round] = x.taken(round);
        }
        Check.due("32 taken", taken, 1, 1, 1, 0, 0, 0);
        Check.due("32 round 6", x.taken(6), -1);
        Check.due("32 round -1", x.taken(-1), -1);
        Check.due("32 round far off", x.taken(FAR_OFF), -1);
        x.setMaster(2, 1);
        x.run(1);
        Check.due("32 taken without requests", x.taken(6), 1);
        Check.due("6 that counts too", x.rule(1, 3), 4);
    }

    private static void pair(String what, ArmDuel x, int... want) {
        int[] got = new int[4];
        for (int i = 0; i < 4; i++) {
            got[i] = x.bestPair(i);
        }
        Check.due(what, got, want);
    }

    private static void promise33() {
        pair("33 no rounds", Check.drive("drive 9 0; rule near; rule fcfs"), 0, 0, 0, 0);
        // near in 4 rounds or in 5, then fcfs: 14 and 11, or 19 and 6.
        pair("33 near, then fcfs", nearThenFcfs(""), 25, 1, 0, 4);
        pair("33 near all the time", keptFcfs(""), 33, 0, 1, 0);
        pair("33 of several the lowest ones", keptFcfs("; rule near"), 33, 0, 1, 0);
        ArmDuel x = Check.drive("drive 20 0; rule near; rule near; rule fcfs; rule fcfs", 10, 8, 12);
        x.run(3);
        x.request(15);
        x.request(10);
        x.request(4);
        x.run(3);
        pair("33 the lowest first, the lowest second", x, 25, 0, 2, 4);
        Check.argument("33 what 4", () -> x.bestPair(4));
        Check.argument("33 what -1", () -> x.bestPair(-1));
    }

    private static void promise34() {
        ArmDuel x = nearThenFcfs("");
        Check.due("34 near cheaper than fcfs", x.cheaper(1, 0), 3);
        Check.due("34 fcfs cheaper than near", x.cheaper(0, 1), 1);
        Check.due("34 than itself", x.cheaper(1, 1), 0);
        Check.index("34 rule 2", () -> x.cheaper(2, 0));
        Check.index("34 rule -1", () -> x.cheaper(-1, 0));
        Check.index("34 other 2", () -> x.cheaper(0, 2));
        Check.index("34 other -1", () -> x.cheaper(0, -1));
    }

    private static void promise35() {
        ArmDuel x = nearThenFcfs("");
        Check.due("35 near", x.leads(1), 5);
        Check.due("35 fcfs, of both the lowest", x.leads(0), 1);
        ArmDuel y = Check.drive("drive 9 0; rule near; rule fcfs");
        Check.due("35 none ahead of the first round", y.leads(0), 0);
        y.run(3);
        Check.due("35 behind rounds without requests", y.leads(0), 3);
        Check.index("35 rule 2", () -> y.leads(2));
        Check.index("35 rule -1", () -> y.leads(-1));
    }

    private static ArmDuel taking(int... rules) {
        ArmDuel x = Check.drive("drive 9 0; rule near; rule fcfs; rule scan; rule near");
        for (int rule : rules) {
            x.setMaster(2, rule);
            x.run(1);
        }
        return x;
    }

    private static void promise36() {
        Check.due("36 no rounds", taking().switches(), 0);
        Check.due("36 one round", taking(2).switches(), 0);
        Check.due("36 the same rule", taking(1, 1, 1).switches(), 0);
        Check.due("36 several", taking(1, 1, 2, 0, 0, 1).switches(), 3);
        Check.due("36 another number is another rule", taking(0, 3, 0).switches(), 2);
    }

    private static void promise37() {
        ArmDuel x = taking(1, 1, 2, 1, 1, 1, 0, 2, 2, 1);
        Check.due("37 in the middle", x.streak(1), 3);
        Check.due("37 once", x.streak(0), 1);
        Check.due("37 the second time", x.streak(2), 2);
        Check.due("37 never", x.streak(3), 0);
        Check.due("37 at the end", taking(1, 2, 2).streak(2), 2);
        Check.due("37 at the beginning", taking(1, 1, 2).streak(1), 2);
        Check.index("37 rule 4", () -> x.streak(4));
        Check.index("37 rule -1", () -> x.streak(-1));
    }

    private static void promise38() {
        ArmDuel x = nearThenFcfs("");
        Check.due("38 one round of near", x.dearest(1, 1), 5);
        Check.due("38 two rounds of near", x.dearest(1, 2), 4);
        Check.due("38 one round of fcfs", x.dearest(0, 1), 0);
        Check.due("38 two rounds of fcfs", x.dearest(0, 2), 0);
        Check.due("38 all rounds", x.dearest(0, 6), 0);
        Check.due("38 fewer rounds", x.dearest(0, 7), -1);
        Check.due("38 fewer than 1000", x.dearest(1, 1000), -1);
        ArmDuel y = Check.drive("drive 20 5; rule near", 5, 8, 11);
        y.run(4);
        Check.due("38 of several the earliest", y.dearest(0, 1), 1);
        Check.due("38 two of 0 3 3 0", y.dearest(0, 2), 1);
        Check.due("38 three of 0 3 3 0", y.dearest(0, 3), 0);
        ArmDuel idle = new ArmDuel();
        Check.due("38 no rounds", idle.dearest(0, 1), -1);
        idle.run(3);
        Check.due("38 rounds without cost", idle.dearest(0, 2), 0);
        Check.index("38 rule 1", () -> idle.dearest(1, 1));
        Check.index("38 rule -1", () -> idle.dearest(-1, 1));
        Check.argument("38 length 0", () -> idle.dearest(0, 0));
        Check.argument("38 length 1001", () -> idle.dearest(0, 1001));
        Check.index("38 the index comes first", () -> idle.dearest(1, 0));
    }

    private static void promise39() {
        ArmDuel x = nearThenFcfs("");
        Check.due("39 all", x.windowRegret(0, 6), -4);
        Check.due("39 the first three", x.windowRegret(0, 3), 0);
        Check.due("39 the last three", x.windowRegret(3, 3), 0);
        Check.due("39 one", x.windowRegret(3, 1), 1);
        Check.due("39 2 to 4", x.windowRegret(2, 3), 10 - 9);
        Check.due("39 2 to 5", x.windowRegret(2, 4), 16 - 18);
        Check.due("39 not all made", x.windowRegret(3, 4), NO_VALUE);
        Check.due("39 none made", x.windowRegret(6, 1), NO_VALUE);
        Check.due("39 far off", x.windowRegret(FAR_OFF, 1000), NO_VALUE);
        Check.argument("39 from -1", () -> x.windowRegret(-1, 1));
        Check.argument("39 length 0", () -> x.windowRegret(0, 0));
        Check.argument("39 length 1001", () -> x.windowRegret(0, 1001));
        Check.argument("39 length -1", () -> x.windowRegret(9, -1));
    }

    private static void promise40() {
        ArmDuel x = nearThenFcfs("");
        Check.due("40 all, of both the lowest", x.windowBest(0, 6), 0);
        Check.due("40 the first five", x.windowBest(0, 5), 1);
        Check.due("40 one, of both the lowest", x.windowBest(1, 1), 0);
        Check.due("40 round 3", x.windowBest(3, 1), 1);
        Check.due("40 the last three", x.windowBest(3, 3), 0);
        Check.due("40 not all made", x.windowBest(3, 4), -1);
        Check.due("40 none made", x.windowBest(6, 1), -1);
        Check.due("40 far off", x.windowBest(FAR_OFF, 1000), -1);
        Check.argument("40 from -1", () -> x.windowBest(-1, 1));
        Check.argument("40 length 0", () -> x.windowBest(0, 0));
        Check.argument("40 length 1001", () -> x.windowBest(0, 1001));
    }

    private static void promise41() {
        ArmDuel x = nearThenFcfs("");
        Check.due("41 one round", x.worstWindow(1), 3);
        Check.due("41 two rounds, of several the earliest", x.worstWindow(2), 2);
        Check.due("41 four rounds", x.worstWindow(4), 0);
        Check.due("41 five rounds", x.worstWindow(5), 0);
        Check.due("41 below 0", x.worstWindow(6), 0);
        Check.due("41 fewer rounds", x.worstWindow(7), -1);
        Check.due("41 fewer than 1000", x.worstWindow(1000), -1);
        Check.due("41 the second of two", keptFcfs("").worstWindow(1), 0);
        Check.argument("41 length 0", () -> x.worstWindow(0));
        Check.argument("41 length 1001", () -> x.worstWindow(1001));
    }

    private static void promise42() {
        ArmDuel x = nearThenFcfs("");
        Check.due("42 the arm itself", x.meanCost(-1), 26.0 / 6.0);
        Check.due("42 fcfs", x.meanCost(0), 5.0);
        x.run(1);
        Check.due("42 near behind one more round", x.meanCost(1), 30.0 / 7.0);
        Check.due("42 no rounds", new ArmDuel().meanCost(0), 0.0);
        Check.index("42 arm 2", () -> x.meanCost(2));
        Check.index("42 arm -2", () -> x.meanCost(-2));
    }

    private static void promise43() {
        ArmDuel x = Check.drive("drive 10 0; rule fcfs; rule near; rule near", 9, 1);
        Check.due("43 at first", x.share(1), 1.0f / 3.0f);
        x.run(1);
        Check.due("43 fcfs", x.share(0), 900000.0f / (float) (900000 + 2 * 988889));
        Check.due("43 near", x.share(2), 988889.0f / (float) (900000 + 2 * 988889));
        Check.due("43 one rule", new ArmDuel().share(0), 1.0f);
        Check.index("43 rule 3", () -> x.share(3));
        Check.index("43 rule -1", () -> x.share(-1));
    }

    private static void theLastRounds() {
        ArmDuel x = Check.drive("drive 10 9; rule fcfs; rule near; foe ends; bound 3 1");
        for (int i = 0; i < 4; i++) {
            x.run(200);
        }
        x.run(199);
        x.setMaster(2, 1);
        x.run(1);
        Check.due("31 round 999", x.cost(-1, 999), 9);
        Check.due("31 round 1000", x.cost(-1, 1000), NO_VALUE);
        Check.due("32 round 999", x.taken(999), 1);
        Check.due("32 round 1000", x.taken(1000), -1);
        Check.due("24 the bound behind 1000", x.regret(1), 34);
        Check.due("37 of 1000", x.streak(0), 999);
        Check.due("38 length 1000", x.dearest(1, 1000), 0);
        Check.due("39 length 1000", x.windowRegret(0, 1000), 0);
        Check.due("39 one more", x.windowRegret(1, 1000), NO_VALUE);
        Check.due("40 length 1000", x.windowBest(0, 1000), 0);
        Check.due("41 length 1000", x.worstWindow(1000), 0);
        Check.due("35 of 1000", x.leads(0), 1000);
        Check.due("42 of 1000", x.meanCost(1), 8.991);
        pair("33 of 1000", x, 8991, 0, 0, 0);
    }
}
