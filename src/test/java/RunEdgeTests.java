import java.util.List;

/**
 * Promises 44 to 56 at their edges: the least and the most rounds, the last ones of 1000, predictions beyond
 * them, requests that just fit, and snapshots of all that there is.
 */
final class RunEdgeTests {
    private static final int NO_VALUE = ArmDuel.NO_VALUE;
    private static final int LEAST = Integer.MIN_VALUE;
    private static final int MOST = Integer.MAX_VALUE;
    private static final String STARVED = "drive 14 2; rule fcfs; rule wrap";

    private RunEdgeTests() {
    }

    static void run() {
        theLastRounds();
        runsToBreaches();
        breachesAtTheLimit();
        hurtsAtTheLimit();
        hurtsAtTheEnds();
        hurtsThatDraw();
        worstWhateverTheFoe();
        oneRoundAndManyRounds();
        predictionsBehindTheLimit();
        breachesForeseen();
        foesForeseen();
        rivalsForeseen();
        budgetsForeseen();
        budgetsInFullDrives();
        snapshotsOfAll();
        slots();
        snapshotsAndLoads();
    }

    private static ArmDuel worn(String text, int rounds, int... requests) {
        ArmDuel x = Check.drive(text, requests);
        for (int left = rounds; left > 0; left -= 200) {
            x.run(Math.min(left, 200));
        }
        return x;
    }

    private static void theLastRounds() {
        ArmDuel x = worn("drive 5 0; foe ends", 800);
        Check.argument("44 201 of 200 that are left", () -> x.run(201));
        Check.due("44 200 that are left", x.run(200), 1000);
        Check.argument("44 none is left", () -> x.run(1));
        Check.argument("44 0 of none", () -> x.run(0));
        Check.argument("44 200 of none", () -> x.run(200));
        ArmDuel y = worn("drive 5 0; foe ends", 801);
        Check.argument("44 200 of 199 that are left", () -> y.run(200));
        Check.due("44 nothing was made", y.rounds(), 801);
        Check.due("44 199 that are left", y.run(199), 1000);
        ArmDuel z = worn("drive 5 0; foe ends", 999);
        Check.argument("44 2 of 1 that is left", () -> z.run(2));
        Check.due("44 the last one", z.run(1), 1000);
        Check.due("3 all rounds anew", Check.load(z, "drive 5 0"), 1);
        Check.due("44 there are rounds again", z.run(200), 200);
    }

    private static void runsToBreaches() {
        // The regret of fcfs is 3 behind two rounds, and 0 behind the third.
        String text = "drive 12 5; rule fcfs; rule near; bound ";
        Check.due("45 the first of one", Check.drive(text + "2 0", 9, 6).runToBreach(1), 1);
        Check.due("45 the first of 200", Check.drive(text + "2 0", 9, 6).runToBreach(200), 1);
        ArmDuel equal = Check.drive(text + "3 0", 9, 6);
        Check.due("45 as great as the bound is none", equal.runToBreach(200), -1);
        Check.due("45 200 were made", equal.rounds(), 200);
        ArmDuel one = Check.drive(text + "3 0", 9, 6);
        Check.due("45 none in one round", one.runToBreach(1), -1);
        Check.due("45 it was made", one.rounds(), 1);
        one.setBound(2, 0);
        Check.due("45 a breach of before is none of now", one.runToBreach(5), 1);
        Check.due("45 two were made", one.rounds(), 2);
        ArmDuel none = Check.drive("drive 12 5; rule fcfs; rule near", 9, 6);
        Check.due("45 without a bound", none.runToBreach(3), -1);
        Check.due("45 three were made", none.rounds(), 3);
        // Behind the rounds the bound is 0 + 3 * 1, 3 * 1, 3 * 1, 3 * 2; the regret stays at 4.
        ArmDuel late = Check.drive("drive 12 5; rule fcfs; rule near; bound 3 0", 9, 6);
        late.run(2);
        Check.due("45 no breach is left", late.runToBreach(7), -1);
        Check.due("24 none was one", late.regret(2), 0);
    }

    /** near is spared 9 in four of five rounds, so that a bound is broken in a round that is known. */
    private static void breachesAtTheLimit() {
        String text = "drive 10 1; rule fcfs; rule near; foe ends";
        ArmDuel x = worn(text, 800, 0, 9);
        int regret = x.regretIn(199);
        Check.due("48 the last round costs more", x.regretIn(200) > regret ? 1 : 0, 1);
        x.setBound(regret, 0);
        Check.due("45 the last of all rounds", x.runToBreach(200), 200);
        Check.due("45 1000 were made", x.rounds(), 1000);
        Check.due("45 none is left", x.runToBreach(200), -1);
        Check.due("45 none was made", x.rounds(), 1000);
        Check.due("24 one breach", x.regret(2), 1);
        Check.due("24 in the round 999", x.regret(4), 999);
        ArmDuel y = worn(text, 995, 0, 9);
        y.setBound(99999, 0);
        Check.due("45 200 of 5 that are left", y.runToBreach(200), -1);
        Check.due("45 five were made", y.rounds(), 1000);
        ArmDuel z = worn(text, 995, 0, 9);
        z.setBound(z.regret(0) - 1, 0);
        Check.due("45 6 of 5 that are left", z.runToBreach(6), 1);
        Check.due("45 one was made", z.rounds(), 996);
    }

    private static void hurtsAtTheLimit() {
        for (int waits : new int[] {0, 1, 18, 19, 20}) {
            ArmDuel x = Check.drive("drive 10 4; rule fcfs; rule near; rival keep 1");
            for (int i = 0; i < waits; i++) {
                x.request(9);
            }
            // fcfs pays 5 for the 9, near nothing for a 4; with no request both pay the same.
            int due = waits == 20 ? NO_VALUE : waits == 0 ? 0 : 5;
            Check.due("46 with " + waits, x.hurtOf(4), due);
            Check.due("46 at 9 with " + waits, x.hurtOf(9), waits == 20 ? NO_VALUE : 0);
            Check.due("47 with " + waits, x.worst(), waits == 20 ? -1 : waits == 0 ? 0 : 4);
            Check.due("16 so many wait", x.arm(-1, 2), waits);
            Check.due("23 no round was made", x.rounds(), 0);
        }
    }

    /** The first cylinder and the last one can hurt most; of several the lowest one does. */
    private static void hurtsAtTheEnds() {
        ArmDuel last = Check.drive("drive 10 9; rule fcfs; rule near", 0);
        Check.due("46 at the last cylinder", last.hurtOf(9), 9);
        Check.due("46 at the first one", last.hurtOf(0), 0);
        Check.due("47 the last cylinder", last.worst(), 9);
        ArmDuel first = Check.drive("drive 10 0; rule fcfs; rule near", 9);
        Check.due("46 where it stands", first.hurtOf(0), 9);
        Check.due("47 the first cylinder", first.worst(), 0);
        ArmDuel second = Check.drive("drive 2 1; rule fcfs; rule near", 0);
        Check.due("47 the second of two", second.worst(), 1);
        ArmDuel hundred = Check.drive("drive 100 99; cost 99 99; rule fcfs; rule near", 0);
        Check.due("46 the most", hundred.hurtOf(99), 9900);
        Check.due("46 beside it", hundred.hurtOf(98), 9900 - 198);
        Check.due("47 the last of 100", hundred.worst(), 99);
        // band 3 spares as much for 6 as for 2; the foe takes the lowest one.
        ArmDuel tie = Check.drive("drive 10 4; rule fcfs; rule near", 7);
        Check.due("46 two below", tie.hurtOf(2), 1);
        Check.due("46 two above", tie.hurtOf(6), 1);
        tie = Check.drive("drive 10 4; rule near; rule fcfs; rule wrap", 2, 7);
        Check.due("46 no regret can be", tie.hurtOf(0), 0);
        Check.due("47 of all the lowest", tie.worst(), 0);
        ArmDuel mid = Check.drive("drive 10 4; cost 50 1; rule fcfs; rule band 0", 9, 7);
        Check.due("46 of the distance 0 alone", mid.hurtOf(4), 55);
        Check.due("46 at the distance 1", mid.hurtOf(5), 0);
        Check.due("47 that one", mid.worst(), 4);
    }

    /** A prediction takes the rule that the next draw takes, and leaves the seed where it is. */
    private static void hurtsThatDraw() {
        int seen = 0;
        for (int seed = 0; seed < 32768; seed += 1777) {
            ArmDuel x = Check.drive("drive 2 0; cost 5 9; rule fcfs; rule scan; mix 500 " + seed + "; foe ends");
            x.run(9);
            x.setMaster(0, 0);
            x.setFoe(0);
            int rule = x.nextRule();
            seen |= 1 << rule;
            x.request(0);
            x.request(1);
            int[] hurts = {x.hurtOf(0), x.hurtOf(1)};
            int worst = x.worst();
            Check.due("47 the greater one", worst, hurts[1] > hurts[0] ? 1 : 0);
            Check.due("21 the same rule", x.nextRule(), rule);
            Check.due("48 the same behind one", x.regretIn(1), x.regretKeeping(rule, 1));
            x.saveSnapshot(0);
            for (int cylinder = 0; cylinder < 2; cylinder++) {
                x.restoreSnapshot(0);
                x.request(cylinder);
                x.run(1);
                Check.due("46 as it comes", x.regret(0), hurts[cylinder]);
                Check.due("32 the rule foreseen", x.taken(9), rule);
            }
        }
        Check.due("the test drew both rules", seen, 3);
    }

    private static void worstWhateverTheFoe() {
        for (int foe = 0; foe < 6; foe++) {
            for (int budget = -1; budget < 2; budget++) {
                ArmDuel x = Check.drive("drive 10 4; rule fcfs; rule near; ask 8", 9);
                x.setFoe(foe);
                x.setBudget(budget);
                Check.due("47 with foe " + foe + " and budget " + budget, x.worst(), 4);
                Check.due("46 with foe " + foe + " and budget " + budget, x.hurtOf(4), 5);
                Check.due("5 it did not ask", x.setting(14), 0);
            }
        }
    }

    private static void oneRoundAndManyRounds() {
        String text = "drive 10 1; rule fcfs; rule near; rival keep 1; foe ends; bound 50 9";
        for (int rounds : new int[] {1, 2, 199, 200}) {
            ArmDuel x = Check.drive(text, 0, 9);
            int regret = x.regretIn(rounds);
            int itself = x.costIn(-1, rounds);
            int near = x.costIn(1, rounds);
            int kept = x.regretKeeping(1, rounds);
            int against = x.regretAgainst(2, rounds);
            int rival = x.rivalIn(rounds);
            x.saveSnapshot(0);
            x.run(rounds);
            Check.due("48 behind " + rounds, regret, x.regret(0));
            Check.due("49 itself behind " + rounds, itself, x.arm(-1, 3));
            Check.due("49 near behind " + rounds, near, x.arm(1, 3));
            Check.due("53 behind " + rounds, rival, x.arm(-1, 3) - x.rival(2));
            x.restoreSnapshot(0);
            x.setMaster(2, 1);
            x.run(rounds);
            Check.due("51 behind " + rounds, kept, x.regret(0));
            x.restoreSnapshot(0);
            x.setFoe(2);
            x.run(rounds);
            Check.due("52 behind " + rounds, against, x.regret(0));
        }
    }

    /** The rounds beyond 1000 go on as before: ends, the root of the bound, draws. */
    private static void predictionsBehindTheLimit() {
        String text = "drive 10 1; rule fcfs; rule near; rival keep 1; foe ends; ask 3; mix 500 77";
        for (int made : new int[] {999, 1000}) {
            ArmDuel x = worn(text, made, 0, 9);
            // From a drive of the same cylinders, directions and requests that is 200 or more rounds younger.
            ArmDuel young = worn(text, made - 250, 0, 9);
            Check.due("16 at the same cylinder", x.arm(1, 0), young.arm(1, 0));
            Check.due("17 with the same requests", Check.waiting(x, 1), Check.waiting(young, 1));
            int more = x.regret(0) - young.regret(0);
            for (int rounds : new int[] {1, 2, 150, 200}) {
                Check.due("48 " + rounds + " behind " + made, x.regretIn(rounds) - more, young.regretIn(rounds));
                Check.due("49 " + rounds + " behind " + made, x.costIn(1, rounds), young.costIn(1, rounds));
                Check.due("51 " + rounds + " behind " + made, x.regretKeeping(1, rounds) - more,
                        young.regretKeeping(1, rounds));
                Check.due("52 " + rounds + " behind " + made, x.regretAgainst(4, rounds) - more,
                        young.regretAgainst(4, rounds));
                Check.due("53 " + rounds + " behind " + made, x.rivalIn(rounds) - x.arm(-1, 3) + x.rival(2),
                        young.rivalIn(rounds) - young.arm(-1, 3) + young.rival(2));
            }
            Check.due("46 behind " + made, x.hurtOf(9) - more, young.hurtOf(9));
            Check.due("47 behind " + made, x.worst(), young.worst());
            Check.due("54 behind " + made, x.budgetFor(x.regret(0) + 9), young.budgetFor(young.regret(0) + 9));
            Check.due("21 behind " + made, x.nextRule(), young.nextRule());
            Check.due("23 nothing was made", x.rounds(), made);
        }
        // The roots behind 1088, 1089, 1155 and 1156 rounds are 32, 33, 33 and 34.
        for (int behind : new int[] {88, 89, 155, 156}) {
            ArmDuel x = worn(text, 1000, 0, 9);
            int root = (int) Math.sqrt(1000 + behind);
            x.setBound(x.regretIn(behind) - root, 1);
            Check.due("50 a bound of beyond 1000 rounds", x.breachIn(), firstBreach(x, 1));
            x.setBound(x.regretIn(behind) - root - 1, 1);
            Check.due("50 one less", x.breachIn(), firstBreach(x, 1));
        }
    }

    /** The least number of rounds behind which the regret that is foreseen is above the bound. */
    private static int firstBreach(ArmDuel x, int root) {
        int base = x.setting(11);
        int made = x.rounds();
        for (int rounds = 1; rounds <= 200; rounds++) {
            if (x.regretIn(rounds) > base + root * (int) Math.floor(Math.sqrt(made + rounds))) {
                return rounds;
            }
        }
        return -1;
    }

    private static void breachesForeseen() {
        String text = "drive 10 1; rule fcfs; rule near; foe ends";
        ArmDuel x = Check.drive(text, 0, 9);
        Check.due("50 no bound", x.breachIn(), -1);
        for (int rounds : new int[] {1, 2, 3, 20, 40}) {
            x.setBound(x.regretIn(rounds), 0);
            Check.due("50 above the regret behind " + rounds, x.breachIn(), firstBreach(x, 0));
        }
        x.setBound(x.regretIn(200), 0);
        Check.due("50 not within 200", x.breachIn(), -1);
        x.setBound(x.regretIn(200) - 1, 0);
        Check.due("50 the 200th", x.breachIn(), 200);
        x.setBound(0, 0);
        Check.due("50 the first", x.breachIn(), x.regretIn(1) > 0 ? 1 : 2);
        Check.due("24 nothing was a breach", x.regret(2), 0);
        ArmDuel worn = worn(text, 1000, 0, 9);
        worn.setBound(worn.regretIn(200) - 1, 0);
        Check.due("50 the 200th behind 1000", worn.breachIn(), 200);
        worn.setBound(worn.regret(0), 0);
        Check.due("50 soon behind 1000", worn.breachIn() >= 1 && worn.breachIn() <= 5 ? 1 : 0, 1);
        // The regret stays at 29, and the root of the bound grows beyond it.
        ArmDuel root = Check.drive("drive 40 0; rule fcfs; rule near; foe none", 30, 1);
        root.run(1);
        root.setBound(28, 1);
        Check.due("50 never above a bound that grows", root.breachIn(), -1);
        ArmDuel breach = Check.drive("drive 40 0; rule fcfs; rule near; bound 28 0", 30, 1);
        breach.run(1);
        Check.due("24 a breach of before", breach.regret(2), 1);
        Check.due("50 one that is still one", breach.breachIn(), 1);
    }

    private static void foesForeseen() {
        ArmDuel x = Check.drive("drive 10 4; rule fcfs; rule near; foe far; ask 8; ask 1; budget 2", 9, 2);
        int[] want = new int[6];
        for (int kind = 0; kind < 6; kind++) {
            want[kind] = x.regretAgainst(kind, 6);
        }
        Check.due("52 the foe of now", want[1], x.regretIn(6));
        for (int kind = 0; kind < 6; kind++) {
            ArmDuel y = Check.drive("drive 10 4; rule fcfs; rule near; ask 8; ask 1; budget 2", 9, 2);
            y.setFoe(kind);
            y.run(6);
            Check.due("52 foe " + kind, want[kind], y.regret(0));
        }
        // Both arms go to 0 at once; what hurt asked there counts also if another foe is set.
        ArmDuel spent = Check.drive(STARVED + "; foe hurt; budget 1");
        spent.run(1);
        spent.setFoe(1);
        spent.request(9);
        Check.due("52 hurt is like list then, which has no asks", spent.regretAgainst(5, 1), 0);
        spent.setBudget(1);
        Check.due("52 and it hurts again behind a new budget", spent.regretAgainst(5, 1), 9);
        Check.due("5 it has not asked yet", spent.setting(14), 0);
    }

    private static void rivalsForeseen() {
        ArmDuel none = Check.drive("drive 10 4; rule fcfs; rule near", 9, 2);
        Check.due("53 no rival", none.rivalIn(1), NO_VALUE);
        Check.due("53 no rival", none.rivalIn(200), NO_VALUE);
        // Its seed goes on from draw to draw, and does not start again.
        ArmDuel x = drawn();
        for (int rounds : new int[] {1, 7, 30}) {
            ArmDuel y = drawn();
            int got = y.rivalIn(rounds);
            Check.due("53 again the same", y.rivalIn(rounds), got);
            y.run(rounds);
            Check.due("53 behind " + rounds, got, y.arm(-1, 3) - y.rival(2));
        }
        x.run(30);
        int[] taken = new int[3];
        for (int round = 0; round < 30; round++) {
            x.run(1);
            int rule = x.rival(5);
            taken[rule]++;
        }
        Check.due("the test's rival takes several rules", taken[0] < 30 ? 1 : 0, 1);
        ArmDuel less = Check.drive("drive 12 5; rule fcfs; rule near; master keep 1; rival keep 0", 9, 6);
        Check.due("53 the rival costs more", less.rivalIn(1), -3);
    }

    /** Weights that are small enough for the seeds to choose among all rules. */
    private static ArmDuel drawn() {
        ArmDuel x = Check.drive("drive 9 4; cost 3 1; rule fcfs; rule near; rule scan; mix 500 5; foe far;"
                + " master draw; rival draw; bound 20 1; ask 3; ask 8; ask 1", 2, 6);
        x.run(11);
        x.setFoe(4);
        x.run(2);
        return x;
    }

    /**
     * fcfs goes to 9 at once, and wrap stays at 2 for as long as it is asked for 2: the regret behind 20 rounds is 0
     * without a budget, 7 with 1 to 19, and 14 with 20.
     */
    private static void budgetsForeseen() {
        ArmDuel x = Check.drive(STARVED, 9);
        int[] regrets = {LEAST, -1, 0, 1, 6, 7, 8, 13, 14, 15, MOST};
        int[] want = {0, 0, 0, 1, 1, 1, 20, 20, 20, -1, -1};
        for (int i = 0; i < regrets.length; i++) {
            Check.due("54 a regret of " + regrets[i], x.budgetFor(regrets[i]), want[i]);
        }
        for (int foe = 0; foe < 6; foe++) {
            x.setFoe(foe);
            for (int budget = -1; budget < 3; budget++) {
                x.setBudget(budget);
                Check.due("54 whatever the foe is", x.budgetFor(14), 20);
                Check.due("54 and the budget", x.budgetFor(7), 1);
                Check.due("5 the budget stays", x.setting(13), budget);
                Check.due("5 the foe stays", x.setting(9), foe);
            }
        }
        ArmDuel spent = Check.drive("drive 14 2; rule fcfs; rule wrap; foe hurt; budget 3");
        spent.run(3);
        spent.setFoe(0);
        Check.due("5 it asked", spent.setting(14), 3);
        spent.request(9);
        int now = spent.budgetFor(spent.regret(0) + 1);
        Check.due("54 the budget is set now", now, Check.drive(STARVED.replace("2", "" + spent.arm(-1, 0)), 9)
                .budgetFor(1));
        Check.due("5 what it asked stays", spent.setting(14), 3);
    }

    /** A round that is full at first does not count against the budget. */
    private static void budgetsInFullDrives() {
        ArmDuel x = Check.drive(STARVED);
        for (int i = 0; i < 20; i++) {
            x.request(9);
        }
        int[] regrets = new int[21];
        for (int budget = 0; budget <= 20; budget++) {
            x.setBudget(budget);
            regrets[budget] = x.regretAgainst(5, 20);
        }
        Check.due("54 19 rounds are all that hurt has", regrets[20], regrets[19]);
        for (int budget = 0; budget <= 20; budget++) {
            int least = 0;
            while (regrets[least] < regrets[budget]) {
                least++;
            }
            Check.due("54 for the regret of " + budget, x.budgetFor(regrets[budget]), least);
        }
    }

    /** A drive and a copy of it that was saved, spoilt and restored look alike now and later. */
    private static void snapshotsOfAll() {
        for (int slot = 0; slot < 2; slot++) {
            ArmDuel x = drawn();
            x.saveSnapshot(slot);
            x.setFoe(5);
            x.setBudget(3);
            x.setBound(0, 0);
            x.setEta(1);
            x.addAsk(7);
            x.setMaster(1, 0);
            x.request(8);
            x.run(60);
            x.evenWeights();
            Check.due("56 the rounds", x.restoreSnapshot(slot), 13);
            ArmDuel y = drawn();
            y.saveSnapshot(slot);
            Portrait.same("56 restored from " + slot, Portrait.of(x), Portrait.of(y));
        }
        ArmDuel x = drawn();
        x.saveSnapshot(1);
        Check.load(x, "drive 100 99; cost 9 9" + "; rule near".repeat(6) + "; foe ends; rival lead");
        x.run(30);
        x.restoreSnapshot(1);
        ArmDuel y = drawn();
        y.saveSnapshot(1);
        List<String> got = Portrait.of(x);
        Portrait.same("56 over a drive of six rules", got, Portrait.of(y));
        ArmDuel later = drawn();
        later.saveSnapshot(0);
        ArmDuel same = drawn();
        same.saveSnapshot(0);
        for (int i = 0; i < 4; i++) {
            later.run(20);
            later.restoreSnapshot(0);
        }
        later.run(25);
        same.run(25);
        Portrait.same("56 the snapshot stays as it was", Portrait.of(later), Portrait.of(same));
        taken();
    }

    private static void taken() {
        ArmDuel x = Check.drive("drive 9 0; rule near; rule fcfs; rule scan");
        int[] rules = {2, 1, 1, 0, 2, 2, 2, 1};
        for (int rule : rules) {
            x.setMaster(2, rule);
            x.run(1);
        }
        x.saveSnapshot(0);
        Check.load(x, "drive 9 0; rule near; rule fcfs; rule scan; foe ends");
        x.run(12);
        x.restoreSnapshot(0);
        for (int round = 0; round < rules.length; round++) {
            Check.due("56 taken in round " + round, x.taken(round), rules[round]);
        }
        Check.due("56 not taken", x.taken(rules.length), -1);
        Check.due("56 switches", x.switches(), 4);
        Check.due("56 streak", x.streak(2), 3);
    }

    private static void slots() {
        ArmDuel x = Check.drive("drive 9 0; foe ends");
        Check.due("56 nothing in slot 0", x.restoreSnapshot(0), -1);
        Check.due("56 nothing in slot 1", x.restoreSnapshot(1), -1);
        Check.due("55 no rounds", x.saveSnapshot(1), 0);
        Check.due("56 still nothing in slot 0", x.restoreSnapshot(0), -1);
        x.run(5);
        Check.due("55 five", x.saveSnapshot(0), 5);
        Check.due("56 none", x.restoreSnapshot(1), 0);
        Check.due("23 none", x.rounds(), 0);
        Check.due("56 five", x.restoreSnapshot(0), 5);
        Check.due("23 five", x.rounds(), 5);
        Check.argument("55 slot -1", () -> x.saveSnapshot(-1));
        Check.argument("55 slot 2", () -> x.saveSnapshot(2));
        Check.argument("56 slot -1", () -> x.restoreSnapshot(-1));
        Check.argument("56 slot 2", () -> x.restoreSnapshot(2));
        Check.due("55 the same over it", x.saveSnapshot(1), 5);
        Check.due("56 five in both", x.restoreSnapshot(1), 5);
        ArmDuel full = worn("drive 9 0; foe ends", 1000);
        Check.due("55 1000", full.saveSnapshot(0), 1000);
        Check.load(full, "drive 9 0");
        Check.due("56 1000", full.restoreSnapshot(0), 1000);
        Check.argument("44 no round is left", () -> full.run(1));
        Check.due("31 the last one is there", full.cost(0, 999), 8);
    }

    /** The buffer, the result of the latest load and the snapshots are no part of a snapshot. */
    private static void snapshotsAndLoads() {
        ArmDuel x = Check.drive("drive 9 0; foe ends");
        x.append('d');
        x.saveSnapshot(0);
        x.append('r');
        x.restoreSnapshot(0);
        Check.due("56 the buffer stays as it is", x.append(0), 2);
        x.load();
        Check.due("4 an error", x.loadError(), 1);
        x.restoreSnapshot(0);
        Check.due("56 the buffer stays empty", x.append(0), 0);
        Check.due("56 the error stays", x.loadError(), 1);
        x.saveSnapshot(1);
        Check.load(x, "drive 12 3");
        Check.due("4 none", x.loadError(), 0);
        x.restoreSnapshot(1);
        Check.due("56 none stays", x.loadError(), 0);
        Check.due("56 the drive of then", x.setting(0), 9);
        x.run(4);
        x.saveSnapshot(1);
        x.restoreSnapshot(0);
        Check.due("56 the other snapshot stays", x.restoreSnapshot(1), 4);
        Check.load(x, "drive 100 100");
        Check.due("3 an error leaves the snapshots", x.restoreSnapshot(1), 4);
        Check.load(x, "drive 100 0");
        Check.due("3 a load leaves the snapshots", x.restoreSnapshot(0), 0);
    }
}
