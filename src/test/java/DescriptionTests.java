/** Promises 1 to 7: descriptions. */
final class DescriptionTests {
    private static final String START = "drive 10 0; ";

    private DescriptionTests() {
    }

    static void run() {
        promise1();
        promise2();
        promise2Full();
        promise3Statements();
        promise3Ranges();
        promise3Spaces();
        promise3Errors();
        promise3TooMany();
        promise3BeginsAnew();
        promise3ForgetsAll();
        promise4();
        promise5();
        promise6();
        promise7();
    }

    private static void promise1() {
        ArmDuel x = new ArmDuel();
        Check.due("1 settings", Check.settings(x), 10, 0, 0, 1, 1, 2, 0, 100, 1, 0, 0, -1, -1, -1, 0);
        Check.due("1 rule", Check.rule(x, 0), 0, -1, 1000000, 0, 0, 0);
        Check.due("1 arm itself", Check.arm(x, -1), 0, 1, 0, 0, 0, 0, 0);
        Check.due("1 own arm", Check.arm(x, 0), 0, 1, 0, 0, 0, 0, 0);
        Check.due("1 regret", Check.regret(x), 0, ArmDuel.NO_VALUE, 0, 0, -1);
        Check.due("1 rival", x.rival(0), ArmDuel.NO_VALUE);
        Check.due("1 rounds", x.rounds(), 0);
        Check.due("1 loadError", x.loadError(), 0);
        Check.due("1 snapshot 0", x.restoreSnapshot(0), -1);
        Check.due("1 snapshot 1", x.restoreSnapshot(1), -1);
        Check.due("1 served", x.served(0, 0), -1);
        Check.due("1 buffer", x.append(0), 0);
        Check.due("1 NONE", ArmDuel.NONE, -1);
        Check.due("1 FULL", ArmDuel.FULL, -2);
        Check.due("1 NO_VALUE", ArmDuel.NO_VALUE, -2000000000);
        x.run(2);
        ArmDuel same = Check.drive("drive 10 0");
        same.run(2);
        Check.due("1 as by the text", Check.settings(x), Check.settings(same));
    }

    private static void promise2() {
        ArmDuel x = new ArmDuel();
        Check.due("2 no bytes", x.append(0), 0);
        Check.due("2 one byte", x.append('d'), 1);
        Check.due("2 bytes between zeros", x.append(0x7200690000000076L), 4);
        Check.due("2 a byte at the front", x.append(0x6500000000000000L), 5);
        Check.due("2 all 8", x.append(0x2031322033203B20L), 13);
        Check.due("2 the rest", x.append(0x0000666F65206661L), 19);
        Check.due("2 the last byte", x.append('r'), 20);
        Check.due("2 the text is 'drive 12 3 ; foe far'", x.load(), 1);
        Check.due("2 cylinders", x.setting(0), 12);
        Check.due("2 start", x.setting(1), 3);
        Check.due("2 foe", x.setting(9), 1);
        Check.due("2 a negative number", x.append(-1L), 8);
        Check.due("2 another one", x.append(Long.MIN_VALUE), 9);
        Check.due("2 bytes above 127 cannot stand", x.load(), -100);
    }

    private static void promise2Full() {
        ArmDuel x = new ArmDuel();
        Check.write(x, "drive 20 0");
        for (int i = 0; i < 60; i++) {
            x.append(0x2020202020202020L);
        }
        Check.due("2 length 490", x.append(0), 490);
        Check.due("2 length 498", x.append(0x2020202020202020L), 498);
        Check.due("2 3 bytes are too many", x.append(0x202020L), ArmDuel.FULL);
        Check.due("2 2 bytes are not", x.append(0x2000000000000020L), 500);
        Check.due("2 500 is the limit", x.append(' '), ArmDuel.FULL);
        Check.due("2 nothing is no byte more", x.append(0), 500);
        Check.due("2 the text is whole", x.load(), 1);
        Check.due("2 the text counts", x.setting(0), 20);
        Check.due("2 empty again", x.append('d'), 1);
    }

    private static void promise3Statements() {
        ArmDuel x = new ArmDuel();
        Check.due("3 rules", Check.load(x, "drive 100 99; cost 7 8; rule fcfs; rule near; rule scan; rule wrap;"
                + " rule band 5; rule near; master keep 4; mix 500 32767; foe hurt; ask 3; ask 99; ask 3;"
                + " rival lead; budget 999; bound 99999 9999"), 6);
        Check.due("3 settings", Check.settings(x),
                100, 99, 7, 8, 6, 2, 4, 500, 32767, 5, 3, 99999, 9999, 999, 0);
        for (int rule = 0; rule < 6; rule++) {
            Check.due("3 kind of " + rule, x.rule(rule, 0), rule == 5 ? 1 : rule);
            Check.due("3 WIDTH of " + rule, x.rule(rule, 1), rule == 4 ? 5 : -1);
        }
        Check.due("3 ask 1", x.ask(1), 99);
        Check.due("3 rival", Check.rival(x), 1, 99, 0, 0, 0, -1);
        Check.due("3 arm", Check.arm(x, -1), 99, 1, 0, 0, 0, 0, 0);
        Check.due("3 own arm", Check.arm(x, 5), 99, 1, 0, 0, 0, 0, 0);
        Check.due("3 any order, and the last one counts", Check.load(x, "drive 50 4; bound 1 2; budget 3;"
                + " rival draw; ask 1; foe far; mix 1 2; rule band 0; master keep 0; cost 1 2; rule scan;"
                + " cost 3 4; mix 5 6; foe list; rival keep 1; budget 0; bound 0 0; master draw"), 2);
        Check.due("3 the last ones", Check.settings(x), 50, 4, 3, 4, 2, 0, -1, 5, 6, 4, 1, 0, 0, 0, 0);
        Check.due("3 the last rival", x.rival(0), 2);
        String[] foes = {"none", "far", "mirror", "ends", "list", "hurt"};
        for (int foe = 0; foe < foes.length; foe++) {
            Check.load(x, START + "foe " + foes[foe]);
            Check.due("3 foe " + foes[foe], x.setting(9), foe);
        }
        String[] masters = {"draw", "lead", "keep 1"};
        for (int kind = 0; kind < masters.length; kind++) {
            Check.load(x, START + "rule near; rule near; master " + masters[kind] + "; rival " + masters[kind]);
            Check.due("3 master " + masters[kind], x.setting(5), kind);
            Check.due("3 kept by " + masters[kind], x.setting(6), kind == 2 ? 1 : -1);
            Check.due("3 rival " + masters[kind], x.rival(0), kind);
        }
        Check.due("3 a band of its own", Check.load(x, START + "rule band 99"), 1);
        Check.due("3 the rule told is rule 0", x.rule(0, 0), 4);
    }

    private static void promise3Ranges() {
        fits("drive 2 1");
        fits("drive 100 0");
        fails("drive 1 0", 2, 6);
        fails("drive 101 0", 2, 6);
        fails("drive 10 10", 2, 9);
        fits(START + "cost 0 1");
        fits(START + "cost 99 99");
        fails(START + "cost 100 1", 2, 17);
        fails(START + "cost 0 0", 2, 19);
        fails(START + "cost 0 100", 2, 19);
        fits(START + "rule band 0");
        fits(START + "rule band 99");
        fails(START + "rule band 100", 2, 22);
        fails(START + "master keep 0", 2, 24);
        fails(START + "rule near; master keep 1", 2, 35);
        fails(START + "master keep 0; rule near", 2, 24);
        fails(START + "rival keep 0", 2, 23);
        fails(START + "rule near; rival keep 1", 2, 34);
        fits(START + "rule near; rule near; rival keep 1; master keep 1");
        fits(START + "mix 1 0");
        fits(START + "mix 500 32767");
        fails(START + "mix 0 1", 2, 16);
        fails(START + "mix 501 1", 2, 16);
        fails(START + "mix 1 32768", 2, 18);
        fits(START + "ask 0; ask 9");
        fails(START + "ask 10", 2, 16);
        fits(START + "budget 0");
        fails(START + "budget 1000", 2, 19);
        fails(START + "bound 100000 0", 2, 18);
        fails(START + "bound 0 10000", 2, 20);
        fails("drive 4294967306 0", 2, 6);
        fails("drive 99999999999999999999999999 0", 2, 6);
        fails("drive 10 18446744073709551616", 2, 9);
    }

    private static void promise3Spaces() {
        fits("drive10 0");
        fits("   drive   10   0   ;cost1 2;rule band5  ");
        fits("drive 0010 000;foe far;mix 1 1");
        fails("drive 100;foe far", 1, 9);
        fails(START + "rulenear", 1, 12);
        fails(START + "rule bandwidth", 1, 17);
        fails("drive\t10 0", 1, 5);
        fails("drive 10\n0", 1, 8);
    }

    private static void promise3Errors() {
        fails("", 1, 0);
        fails("   ", 1, 3);
        fails("drive", 1, 5);
        fails("drive ", 1, 6);
        fails("drive 10", 1, 8);
        fails("drive 10 0;", 1, 11);
        fails("drive 10 0; ", 1, 12);
        fails("drive 10 0;; cost 1 1", 1, 11);
        fails("rule near", 1, 0);
        fails(" cost 1 1; drive 10 0", 1, 1);
        fails("Drive 10 0", 1, 0);
        fails("drives 10 0", 1, 0);
        fails("driv 10 0", 1, 0);
        fails("drivez 10 0", 1, 0);
        fails("xrive 10 0", 1, 0);
        fails("10 0", 1, 0);
        fails("drive ten 0", 1, 6);
        fails("drive -1 0", 1, 6);
        fails("drive 10 x", 1, 9);
        fails("drive 10 0 5", 1, 11);
        fails("drive 10 0 rule near", 1, 11);
        fails("drive 10 0,", 1, 10);
        fails("drive 10 0" + (char) 233, 1, 10);
        fails(START + "drive 10 0", 1, 12);
        fails(START + "near", 1, 12);
        fails(START + "7", 1, 12);
        fails(START + "rule", 1, 16);
        fails(START + "rule far", 1, 17);
        fails(START + "rule 0", 1, 17);
        fails(START + "rule gear", 1, 17);
        fails(START + "rule fare", 1, 17);
        fails(START + "rule near 5", 1, 22);
        fails(START + "rule near2", 1, 21);
        fails(START + "rule band", 1, 21);
        fails(START + "rule band;", 1, 21);
        fails(START + "master hurt", 1, 19);
        fails(START + "master keep", 1, 23);
        fails(START + "master draw 0", 1, 24);
        fails(START + "rival none", 1, 18);
        fails(START + "foe draw", 1, 16);
        fails(START + "foe", 1, 15);
        fails(START + "mix 1", 1, 17);
        fails(START + "bound 1;", 1, 19);
        fails(START + "budget near", 1, 19);
        // The first error counts, from left to right.
        fails("drive 1", 2, 6);
        fails("drive 101 x; nonsense", 2, 6);
        fails(START + "rule nonsense; cost 100 1", 1, 17);
    }

    private static void promise3TooMany() {
        String six = START + "rule near" + "; rule near".repeat(5);
        fits(six);
        fails(six + "; rule near", 3, six.length() + 2);
        fails(six + "; rule nonsense", 3, six.length() + 2);
        fails(six + ";rule", 3, six.length() + 1);
        fails(six + "; rules", 1, six.length() + 2);
        String sixteen = "drive 10 0" + "; ask 9".repeat(16);
        fits(sixteen);
        fails(sixteen + "; ask 9", 3, sixteen.length() + 2);
        fails(sixteen + ";   ask 10", 3, sixteen.length() + 4);
    }

    private static void promise3BeginsAnew() {
        ArmDuel x = Check.drive("drive 30 3; cost 2 2; rule near; rule scan; rule fcfs; master draw; rival draw;"
                + " foe hurt; budget 5; bound 1 1; ask 4; mix 9 77", 5, 20);
        x.run(9);
        x.saveSnapshot(1);
        int[] settings = Check.settings(x);
        int[] arm = Check.arm(x, -1);
        Check.due("3 an error", Check.load(x, "drive 5 0; rule near; foe x"), -126);
        Check.due("3 an error changes no settings", Check.settings(x), settings);
        Check.due("3 an error changes no arm", Check.arm(x, -1), arm);
        Check.due("3 an error changes no round", x.rounds(), 9);
        Check.due("3 an error empties the buffer", x.append(0), 0);
        Check.due("3 anew", Check.load(x, "drive 5 2"), 1);
        Check.due("3 the buffer is empty", x.append(0), 0);
        Check.due("3 settings anew", Check.settings(x), 5, 2, 0, 1, 1, 2, 0, 100, 1, 0, 0, -1, -1, -1, 0);
        Check.due("3 rule anew", Check.rule(x, 0), 0, -1, 1000000, 0, 0, 0);
        Check.due("3 arm anew", Check.arm(x, -1), 2, 1, 0, 0, 0, 0, 0);
        Check.due("3 own arm anew", Check.arm(x, 0), 2, 1, 0, 0, 0, 0, 0);
        Check.due("3 regret anew", Check.regret(x), 0, ArmDuel.NO_VALUE, 0, 0, -1);
        Check.due("3 rounds anew", x.rounds(), 0);
        Check.due("3 no cost", x.cost(-1, 0), ArmDuel.NO_VALUE);
        Check.due("3 nothing served", x.served(0, 0), -1);
        Check.due("3 nothing swapped", x.swapCost(0, 0), 0);
        Check.due("3 nothing led", x.leads(0), 0);
        Check.due("3 no rival", x.rival(0), ArmDuel.NO_VALUE);
        Check.due("3 an empty buffer is an error", x.load(), -100);
        Check.due("3 the snapshots stay", x.restoreSnapshot(1), 9);
        Check.due("3 the snapshot's settings", Check.settings(x), settings);
    }

    private static void promise3ForgetsAll() {
        ArmDuel x = Check.drive("drive 10 0; rule fcfs; rule near; rival keep 1; bound 0 0", 9, 1, 8);
        x.run(3);
        Check.due("3 regret ahead of it", Check.regret(x), 24 - 9, 0, 3, 24 - 9, 0);
        Check.due("3 rival ahead of it", Check.rival(x), 2, 9, 9, 0, 3, 1);
        Check.load(x, "drive 10 0; rule fcfs; rule near; rival keep 1; bound 0 0");
        Check.due("3 regret behind it", Check.regret(x), 0, 0, 0, 0, -1);
        Check.due("3 rival behind it", Check.rival(x), 2, 0, 0, 0, 0, -1);
        Check.due("3 rule behind it", Check.rule(x, 0), 0, -1, 1000000, 0, 0, 0);
        Check.due("3 swaps behind it", x.swapCost(0, 0) + x.swapCost(0, 1), 0);
        Check.due("3 leads behind it", x.leads(1), 0);
        Check.due("3 nothing waits behind it", x.arm(1, 2), 0);
        Check.due("3 nothing was served", x.served(0, 0), -1);
    }

    private static void promise4() {
        ArmDuel x = new ArmDuel();
        Check.due("4 no load", x.loadError(), 0);
        x.load();
        Check.due("4 error 1", x.loadError(), 1);
        Check.load(x, "drive 10 10");
        Check.due("4 error 2", x.loadError(), 2);
        x.saveSnapshot(0);
        Check.load(x, "drive 10 0" + "; rule near".repeat(7));
        Check.due("4 error 3", x.loadError(), 3);
        x.restoreSnapshot(0);
        Check.due("4 no part of a snapshot", x.loadError(), 3);
        Check.load(x, "drive 10 0");
        Check.due("4 no error", x.loadError(), 0);
    }

    private static void promise5() {
        ArmDuel x = Check.drive("drive 10 3; cost 4 5; rule near; rule fcfs; master keep 1; mix 6 7; foe hurt;"
                + " ask 8; bound 9 10; budget 2");
        Check.due("5 settings", Check.settings(x), 10, 3, 4, 5, 2, 2, 1, 6, 7, 5, 1, 9, 10, 2, 0);
        x.run(3);
        Check.due("5 hurt asked twice", x.setting(14), 2);
        x.setBudget(-1);
        Check.due("5 none since the budget was set", x.setting(14), 0);
        x.run(4);
        Check.due("5 without a budget too", x.setting(14), 4);
        x.setFoe(4);
        x.run(1);
        Check.due("5 hurt alone", x.setting(14), 4);
        x.setMaster(0, 1);
        Check.due("5 nothing kept", x.setting(6), -1);
        x.run(1);
        Check.due("5 the seed behind a draw", x.setting(8), (1103 * 7 + 12345) % 32768);
        Check.argument("5 what -1", () -> x.setting(-1));
        Check.argument("5 what 15", () -> x.setting(15));
        Check.argument("5 what far off", () -> x.setting(Integer.MIN_VALUE));
    }

    private static void promise6() {
        ArmDuel x = Check.drive("drive 10 0; cost 2 3; rule near; rule band 4; master keep 1", 9, 1);
        Check.due("6 rule 0", Check.rule(x, 0), 1, -1, 1000000, 0, 0, 0);
        Check.due("6 rule 1", Check.rule(x, 1), 4, 4, 1000000, 0, 0, 0);
        x.run(1);
        x.setMaster(2, 0);
        x.run(1);
        // L is 29; near pays 5 and 26, band 4 pays 5 and 26; weights lose W * 100 * C / 29000.
        int behindOne = 1000000 - 1000000 * 5 / 290;
        int behindTwo = behindOne - (int) (behindOne * 26L / 290);
        Check.due("6 rule 0 behind", Check.rule(x, 0), 1, -1, behindTwo, 1, 31, 26);
        Check.due("6 rule 1 behind", Check.rule(x, 1), 4, 4, behindTwo, 1, 31, 5);
        Check.index("6 rule 2", () -> x.rule(2, 0));
        Check.index("6 rule -1", () -> x.rule(-1, 0));
        Check.argument("6 what 6", () -> x.rule(1, 6));
        Check.argument("6 what -1", () -> x.rule(0, -1));
        Check.index("6 the index comes first", () -> x.rule(2, 6));
        Check.index("6 the index far off", () -> x.rule(Integer.MAX_VALUE, -1));
    }

    private static void promise7() {
        ArmDuel x = Check.drive("drive 10 0; ask 7; ask 0; ask 9");
        Check.due("7 ask 0", x.ask(0), 7);
        Check.due("7 ask 1", x.ask(1), 0);
        Check.due("7 ask 2", x.ask(2), 9);
        Check.due("7 ask 3", x.ask(3), -1);
        Check.due("7 ask -1", x.ask(-1), -1);
        Check.due("7 ask far off", x.ask(Integer.MAX_VALUE), -1);
    }

    private static void fits(String text) {
        ArmDuel x = new ArmDuel();
        Check.due("3 load of '" + text + "' fits", Check.load(x, text) > 0 ? 1 : 0, 1);
        Check.due("3 loadError of '" + text + "'", x.loadError(), 0);
    }

    private static void fails(String text, int error, int position) {
        ArmDuel x = new ArmDuel();
        Check.due("3 load of '" + text + "'", Check.load(x, text), -100 - position);
        Check.due("3 loadError of '" + text + "'", x.loadError(), error);
        Check.due("3 nothing else changes by '" + text + "'", x.setting(0), 10);
    }
}
