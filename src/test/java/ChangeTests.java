/** Promises 8 to 15: changes. */
final class ChangeTests {
    private ChangeTests() {
    }

    static void run() {
        promise8();
        promise8Full();
        promise9();
        promise10();
        promise11();
        promise12();
        promise13();
        promise14();
        promise15();
    }

    private static void promise8() {
        ArmDuel x = Check.drive("drive 10 0; rule fcfs; rule near; rival keep 1");
        Check.due("8 one waits", x.request(9), 1);
        Check.due("8 two wait", x.request(0), 2);
        Check.due("8 three wait", x.request(4), 3);
        for (int arm = -1; arm < 2; arm++) {
            Check.due("8 waiting for " + arm, Check.waiting(x, arm), 9, 0, 4);
        }
        x.run(2);
        Check.due("8 the rival got them too", x.rival(1), 4);
        Check.due("8 one more waits", x.request(7), 2);
        Check.due("8 its round is the next one", x.waiting(-1, 1, 1), 2);
        Check.due("8 its round for an own arm", x.waiting(1, 1, 1), 2);
        Check.argument("8 cylinder 10", () -> x.request(10));
        Check.argument("8 cylinder -1", () -> x.request(-1));
        Check.due("8 nothing was added", x.arm(-1, 2), 2);
    }

    private static void promise8Full() {
        ArmDuel x = Check.drive("drive 10 0; rule fcfs; rule scan; rival keep 1");
        for (int i = 0; i < 20; i++) {
            Check.due("8 request " + i, x.request(i % 10), i + 1);
        }
        Check.due("8 full", x.request(0), ArmDuel.FULL);
        Check.due("8 20 wait", x.arm(-1, 2), 20);
        Check.due("8 20 wait for an own arm", x.arm(1, 2), 20);
        Check.argument("8 the exception comes first", () -> x.request(10));
        x.run(1);
        Check.due("8 room again", x.request(5), 20);
        Check.due("8 the last one", x.waiting(-1, 19, 0), 5);
    }

    private static void promise9() {
        ArmDuel x = new ArmDuel();
        Check.due("9 none before", x.setFoe(5), 0);
        Check.due("9 hurt before", x.setFoe(3), 5);
        Check.due("9 it is set", x.setting(9), 3);
        Check.argument("9 kind 6", () -> x.setFoe(6));
        Check.argument("9 kind -1", () -> x.setFoe(-1));
        Check.due("9 nothing changed", x.setFoe(0), 3);
        Check.due("9 none again", x.setting(9), 0);
        foeFar();
        foeMirrorAndEnds();
        foeList();
        foeHurt();
        foeFull();
    }

    /** Runs so many rounds and tells the cylinders that the arm itself served in them. */
    private static int[] servedIn(ArmDuel x, int rounds) {
        x.run(rounds);
        int[] all = new int[rounds];
        for (int i = 0; i < rounds; i++) {
            all[i] = x.served(rounds - 1 - i, 1);
        }
        return all;
    }

    private static void foeFar() {
        Check.due("9 far", servedIn(Check.drive("drive 10 4; foe far"), 3), 9, 0, 9);
        Check.due("9 far from 5", servedIn(Check.drive("drive 10 5; foe far"), 3), 0, 9, 0);
        Check.due("9 far, of both 0", servedIn(Check.drive("drive 11 5; foe far"), 2), 0, 10);
        // The own arm of near goes another way, and far looks at the arm itself.
        ArmDuel x = Check.drive("drive 11 6; rule fcfs; rule near; foe far", 9, 6);
        x.run(2);
        Check.due("9 far from the arm itself", Check.waiting(x, -1), 0, 0);
    }

    private static void foeMirrorAndEnds() {
        Check.due("9 mirror", servedIn(Check.drive("drive 10 3; foe mirror"), 3), 6, 3, 6);
        Check.due("9 mirror in the middle", servedIn(Check.drive("drive 11 5; foe mirror"), 2), 5, 5);
        Check.due("9 ends", servedIn(Check.drive("drive 10 3; foe ends"), 4), 9, 0, 9, 0);
        ArmDuel x = new ArmDuel();
        x.run(1);
        x.setFoe(3);
        Check.due("9 ends in an odd round", servedIn(x, 2), 0, 9);
    }

    private static void foeList() {
        ArmDuel x = Check.drive("drive 10 3; foe list; ask 7; ask 2; ask 8");
        Check.due("9 list", servedIn(x, 2), 7, 2);
        x.setFoe(0);
        x.run(3);
        x.setFoe(1);
        x.run(1);
        x.setFoe(4);
        Check.due("9 the place stays", servedIn(x, 1), 8);
        x.addAsk(1);
        Check.due("9 behind the last one of before", servedIn(x, 3), 1, 7, 2);
        ArmDuel bare = Check.drive("drive 10 3; foe list", 5);
        bare.run(2);
        Check.due("9 none without asks", bare.arm(-1, 6), 1);
        bare.addAsk(6);
        Check.due("9 the first ask", servedIn(bare, 2), 6, 6);
    }

    private static void foeHurt() {
        // fcfs pays 5 for the 9 in any case; near pays less only for a request at 4.
        ArmDuel x = Check.drive("drive 10 4; rule fcfs; rule near; foe hurt; ask 2", 9);
        x.run(1);
        Check.due("9 hurt asks for 4", Check.waiting(x, -1), 4);
        Check.due("9 the regret", x.regret(0), 5);
        Check.due("9 of several the lowest one", servedIn(Check.drive("drive 10 4; foe hurt"), 2), 0, 0);
        ArmDuel y = Check.drive("drive 10 4; foe hurt; budget 2; ask 7; ask 8");
        Check.due("9 hurt, then list", servedIn(y, 5), 0, 0, 7, 8, 7);
        Check.due("9 it asked twice", y.setting(14), 2);
        y.setBudget(1);
        Check.due("9 a budget anew", servedIn(y, 3), 0, 8, 7);
        ArmDuel none = Check.drive("drive 10 4; foe hurt; budget 0", 6);
        none.run(2);
        Check.due("9 without budget and list it adds none", none.arm(-1, 6), 1);
        Check.due("9 it asked never", none.setting(14), 0);
    }

    private static void foeFull() {
        ArmDuel x = Check.drive("drive 10 0; foe hurt; budget 2; ask 9; ask 8");
        for (int i = 0; i < 20; i++) {
            x.request(5);
        }
        x.run(1);
        Check.due("9 20 wait, so it adds none", x.arm(-1, 2), 19);
        Check.due("9 this round does not count", x.setting(14), 0);
        x.run(1);
        Check.due("9 now it does", x.setting(14), 1);
        Check.due("9 it added one", x.arm(-1, 2), 19);
        ArmDuel list = Check.drive("drive 10 0; foe list; ask 9; ask 8");
        for (int i = 0; i < 20; i++) {
            list.request(5);
        }
        list.run(2);
        Check.due("9 the place in a full round stays", list.waiting(-1, 18, 0), 9);
    }

    private static void promise10() {
        ArmDuel x = Check.drive("drive 10 0; rule fcfs; rule near; rule scan");
        Check.due("10 keep before", x.setMaster(0, 77), 2);
        Check.due("10 draw", x.setting(5), 0);
        Check.due("10 none is kept", x.setting(6), -1);
        Check.due("10 draw before", x.setMaster(1, -5), 0);
        Check.due("10 lead", x.setting(5), 1);
        Check.due("10 lead before", x.setMaster(2, 2), 1);
        Check.due("10 kept", x.setting(6), 2);
        Check.due("10 it is taken", x.nextRule(), 2);
        Check.argument("10 kind 3", () -> x.setMaster(3, 0));
        Check.argument("10 kind -1", () -> x.setMaster(-1, 0));
        Check.index("10 rule 3", () -> x.setMaster(2, 3));
        Check.index("10 rule -1", () -> x.setMaster(2, -1));
        Check.argument("10 the kind comes first", () -> x.setMaster(3, 3));
        Check.due("10 nothing changed", x.setting(6), 2);
        Check.due("10 keep another one", x.setMaster(2, 0), 2);
        Check.due("10 kept now", x.setting(6), 0);
    }

    private static void promise11() {
        ArmDuel x = new ArmDuel();
        Check.due("11 100 before", x.setEta(500), 100);
        Check.due("11 500 before", x.setEta(1), 500);
        Check.argument("11 eta 0", () -> x.setEta(0));
        Check.argument("11 eta 501", () -> x.setEta(501));
        Check.due("11 nothing changed", x.setting(7), 1);
        x.request(9);
        x.run(1);
        Check.due("11 ETA counts", x.rule(0, 2), 999000);
    }

    private static void promise12() {
        ArmDuel x = Check.drive("drive 10 0; foe hurt");
        x.run(3);
        Check.due("12 asked without a budget", x.setting(14), 3);
        Check.due("12 none before", x.setBudget(2), -1);
        Check.due("12 from now on", x.setting(14), 0);
        x.run(3);
        Check.due("12 asked so often", x.setting(14), 2);
        Check.due("12 2 before", x.setBudget(999), 2);
        Check.due("12 999 before", x.setBudget(0), 999);
        x.run(1);
        Check.due("12 asked never", x.setting(14), 0);
        Check.due("12 0 before", x.setBudget(-1), 0);
        Check.due("12 none now", x.setting(13), -1);
        x.run(2);
        Check.due("12 no limit", x.setting(14), 2);
        Check.argument("12 budget 1000", () -> x.setBudget(1000));
        Check.argument("12 budget -2", () -> x.setBudget(-2));
        Check.due("12 nothing changed", x.setting(14), 2);
        Check.due("12 none before again", x.setBudget(5), -1);
    }

    private static void promise13() {
        ArmDuel x = new ArmDuel();
        Check.due("13 none before", x.setBound(99999, 9999), -1);
        Check.due("13 BASE before", x.setBound(0, 0), 99999);
        Check.due("13 0 before", x.setBound(3, 4), 0);
        Check.due("13 BASE", x.setting(11), 3);
        Check.due("13 ROOT", x.setting(12), 4);
        Check.argument("13 base -1", () -> x.setBound(-1, 0));
        Check.argument("13 base 100000", () -> x.setBound(100000, 0));
        Check.argument("13 root -1", () -> x.setBound(0, -1));
        Check.argument("13 root 10000", () -> x.setBound(0, 10000));
        Check.due("13 nothing changed", x.setting(11), 3);
    }

    private static void promise14() {
        ArmDuel x = Check.drive("drive 10 0; ask 9");
        Check.due("14 its number", x.addAsk(0), 1);
        Check.due("14 at the end", x.ask(1), 0);
        for (int i = 2; i < 16; i++) {
            Check.due("14 number " + i, x.addAsk(9), i);
        }
        Check.due("14 full", x.addAsk(3), ArmDuel.FULL);
        Check.due("14 16 asks", x.setting(10), 16);
        Check.argument("14 the exception comes first", () -> x.addAsk(10));
        Check.argument("14 cylinder -1", () -> x.addAsk(-1));
        Check.due("14 the last ask", x.ask(15), 9);
        Check.due("14 no 17th", x.ask(16), -1);
    }

    private static void promise15() {
        ArmDuel x = Check.drive("drive 10 0; rule fcfs; rule near", 9, 1);
        x.run(1);
        // fcfs paid 9 of 9, near 1 of 9, at ETA 100.
        Check.due("15 weight of rule 1", x.rule(1, 2), 1000000 - 100000 / 9);
        Check.due("15 weight of rule 0", x.evenWeights(), 900000);
        Check.due("15 rule 0 even", x.rule(0, 2), 1000000);
        Check.due("15 rule 1 even", x.rule(1, 2), 1000000);
        Check.due("15 even before", x.evenWeights(), 1000000);
    }
}
