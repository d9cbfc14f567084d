/**
 * Section 1 at its edges, and promises 2 to 5 and 7 with it: every byte, every end of a text, every number at
 * both ends of its range, what is one too many, and texts that are spoilt by chance (always the same ones).
 */
final class TextTests {
    private static final String ALL = "drive 30 3 ;cost 2 3; rule near;rule band 12 ; rule scan; master keep 2;"
            + " mix 400 32000; foe mirror; ask 29; ask 0; rival keep 0; rival draw; budget 7; bound 88 9 ";
    private static final String[] PARTS = {"cost 5 6", "cost 0 99", "rule fcfs", "rule near", "rule scan", "rule wrap",
        "rule band 3", "rule band99", "master draw", "master lead", "master keep 0", "master keep 1", "mix 1 0",
        "mix 500 32767", "foe none", "foe far", "foe mirror", "foe ends", "foe list", "foe hurt", "ask 0", "ask1",
        "ask 4", "rival draw", "rival lead", "rival keep 0", "budget 0", "budget 999", "bound 0 0", "bound 99999 9999"};
    private static final String[] SPOILT_PARTS = {"drive 5 0", "ask 5", "keep 0", "bound 1", "rival keep 3", "rule"};
    private static final String ALPHABET = " ;;0123456789abcdefghiklmnoprstuvwxyz-.A\t\u0001\u007f\u0080\u00e9\u00ff";

    private long chance = 4711;

    private TextTests() {
    }

    static void run() {
        eachByte();
        eachEnd();
        eachNumber();
        longNumbers();
        placesOfErrors();
        keepsAndRivals();
        oneTooMany();
        theLastOneCounts();
        noRulesAndNoAsks();
        aNewObject();
        theBufferAtItsEnd();
        bytesOfANumber();
        wholeBuffers();
        loadsOneBehindTheOther();
        new TextTests().spoilt();
    }

    private static void load(String text, int error, int position) {
        ArmDuel x = new ArmDuel();
        int answer = Check.load(x, text);
        Check.due("3 load of '" + text + "'", Math.min(answer, 1), error == 0 ? 1 : -100 - position);
        Check.due("4 loadError of '" + text + "'", x.loadError(), error);
    }

    private static void asTheModel(String text) {
        TextModel model = new TextModel(text);
        ArmDuel x = new ArmDuel();
        int answer = Check.load(x, text);
        if (model.error != 0) {
            Check.due("3 load of '" + text + "'", answer, -100 - model.position);
            Check.due("4 loadError of '" + text + "'", x.loadError(), model.error);
            Check.due("3 nothing is told by '" + text + "'", Check.settings(x), Check.settings(new ArmDuel()));
            return;
        }
        Check.due("3 load of '" + text + "'", answer, model.rules.size());
        Check.due("4 loadError of '" + text + "'", x.loadError(), 0);
        Check.due("5 settings by '" + text + "'", Check.settings(x), model.settings());
        for (int rule = 0; rule < model.rules.size(); rule++) {
            Check.due("6 kind of " + rule + " by '" + text + "'", x.rule(rule, 0), model.rules.get(rule)[0]);
            Check.due("6 WIDTH of " + rule + " by '" + text + "'", x.rule(rule, 1), model.rules.get(rule)[1]);
        }
        for (int i = 0; i < model.asks.size(); i++) {
            Check.due("7 ask " + i + " by '" + text + "'", x.ask(i), model.asks.get(i));
        }
        Check.due("7 no ask behind the last one", x.ask(model.asks.size()), -1);
        int[] rival = model.told.get("rival");
        Check.due("30 rival by '" + text + "'", x.rival(0), rival == null ? ArmDuel.NO_VALUE : rival[0]);
    }

    /** Each byte, 0 left out, ahead of the text, within it, at its end and behind a semicolon. */
    private static void eachByte() {
        for (int b = 1; b < 256; b++) {
            String s = String.valueOf((char) b);
            boolean isDigit = b >= '0' && b <= '9';
            boolean isLetter = b >= 'a' && b <= 'z';
            load(s + "drive 10 0", b == ' ' ? 0 : 1, 0);
            if (isDigit) {
                load("drive" + s + "10 0", b == '0' ? 0 : 2, 5);
                load("drive 10 0" + s, 0, 0);
            } else {
                load("drive" + s + "10 0", b == ' ' ? 0 : 1, isLetter ? 0 : 5);
                load("drive 10 0" + s, b == ' ' ? 0 : 1, b == ';' ? 11 : 10);
            }
            load("drive 10 0;" + s + "foe far", b == ' ' ? 0 : 1, 11);
            load("drive 10 0;foe" + s + "far", b == ' ' ? 0 : 1, isLetter ? 11 : 14);
            load("drive 10 0;foe far" + s, b == ' ' ? 0 : 1, b == ';' ? 19 : isLetter ? 15 : 18);
            load("drive 10" + s + "4;foe far", b == ' ' ? 0 : isDigit ? 2 : 1, isDigit ? 6 : 8);
        }
    }

    /** Every beginning of a text with every statement. */
    private static void eachEnd() {
        for (int length = 0; length <= ALL.length(); length++) {
            asTheModel(ALL.substring(0, length));
        }
        load("drive 10", 1, 8);
        load("drive 10   ", 1, 11);
        load("drive 10 0;", 1, 11);
        load("drive 10 0;   ", 1, 14);
        load("drive 10 0;mix 5", 1, 16);
        load("drive 10 0;rule band", 1, 20);
        load("drive 10 0;rule band  ", 1, 22);
        load("driv", 1, 0);
        load("drive 10 0; foe mirro", 1, 16);
    }

    /** A number at both ends of its range, and beyond them: ahead and behind are the rest of the text. */
    private static void number(String ahead, String behind, int least, int most, int what) {
        for (int value : new int[] {least, least + 1, (least + most) / 2, most - 1, most}) {
            if (value >= least && value <= most) {
                ArmDuel x = Check.drive(ahead + value + behind);
                int got = what >= 0 ? x.setting(what) : what == -1 ? x.rule(0, 1) : x.ask(0);
                Check.due("5 the number in '" + ahead + value + behind + "'", got, value);
                load(ahead + "000" + value + behind, 0, 0);
            }
        }
        String[] beyond = {String.valueOf(most + 1), "0" + (most + 1), "1" + most, "2147483647", "2147483648",
            "4294967296", "429496729" + (6 + least), "18446744073709551616", "99999999999999999999999999999999"};
        for (String digits : beyond) {
            load(ahead + digits + behind, 2, ahead.length());
        }
        for (int value = 0; value < least; value++) {
            load(ahead + value + behind, 2, ahead.length());
            load(ahead + "00" + value + behind, 2, ahead.length());
        }
        load(ahead + "-1" + behind, 1, ahead.length());
        load(ahead + "x" + behind, 1, ahead.length());
        load(ahead + ";" + behind, 1, ahead.length());
    }

    private static void eachNumber() {
        number("drive ", " 0", 2, 100, 0);
        number("drive 2 ", "", 0, 1, 1);
        number("drive 100 ", "", 0, 99, 1);
        number("drive 57 ", " ; foe far", 0, 56, 1);
        number("drive 10 0; cost ", " 1", 0, 99, 2);
        number("drive 10 0; cost 0 ", ";foe far", 1, 99, 3);
        number("drive 10 0; rule band ", "", 0, 99, -1);
        number("drive 10 0; mix ", " 7", 1, 500, 7);
        number("drive 10 0; mix 7 ", "", 0, 32767, 8);
        number("drive 2 0; ask ", "", 0, 1, -2);
        number("drive 100 0; ask ", "", 0, 99, -2);
        number("drive 10 0; budget ", "", 0, 999, 13);
        number("drive 10 0; bound ", " 3", 0, 99999, 11);
        number("drive 10 0; bound 3 ", "", 0, 9999, 12);
        number("drive 10 0; rule near; master keep ", "", 0, 0, 6);
        number("drive 10 0; rule near; rule near; master keep ", "; rule near", 0, 1, 6);
        number("drive 10 0" + "; rule near".repeat(6) + "; master keep ", "", 0, 5, 6);
    }

    /** Numbers that would be in range if they were cut off or wrapped around. */
    private static void longNumbers() {
        load("drive 4294967306 0", 2, 6);
        load("drive 18446744073709551626 0", 2, 6);
        load("drive 10 4294967296", 2, 9);
        load("drive 10 0; mix 1 4294967297", 2, 18);
        load("drive 10 0; bound 9999999999999999999 0", 2, 18);
        load("drive " + "0".repeat(300) + "10 0", 0, 0);
        load("drive 10 " + "0".repeat(480), 0, 0);
        load("drive 10 " + "0".repeat(480) + "9", 0, 0);
        load("drive 10 " + "0".repeat(480) + "10", 2, 9);
        load("drive 10 " + "9".repeat(480), 2, 9);
    }

    private static void placesOfErrors() {
        load("   drive    101   0", 2, 12);
        load("drive 10   x", 1, 11);
        load("drive 10 0   7", 1, 13);
        load("drive 10 0 ;   near", 1, 15);
        load("drive 10 0; rule   nearer", 1, 19);
        load("drive 10 0; rule   band   100", 2, 26);
        load("drive 10 0; rule   band   x", 1, 26);
        load("drive 10 0; cost 5 0; cost 100 100", 2, 19);
        load("drive 10 0; cost 100 0", 2, 17);
        load("drive 10 0; foe 7", 1, 16);
        load("drive 10 0; foe far 7", 1, 20);
        load("drive 10 0; foe far; ; foe far", 1, 21);
        load("drive 10 0; drive 10 0", 1, 12);
        load("drive 10 0 drive 10 0", 1, 11);
        load("cost 1 1; drive 10 0", 1, 0);
        load("; drive 10 0", 1, 0);
        load("drive 10 0; budget 1 2", 1, 21);
        load("drive 10 0; bound 1 2 3", 1, 22);
        load("drive 10 0; master keep", 1, 23);
        load("drive 10 0; rule near; master keep near", 1, 35);
        load("drive 10 0; rule near; master lead 0", 1, 35);
        load("drive 10 0; rule near; rival draw lead", 1, 34);
        // Spaces are required between two numbers and between two words, and nowhere else.
        load("drive10 0;cost1 2;rulenear", 1, 18);
        load("drive10 0;cost1 2;rule near;rule band9;master keep1;mix7 7;ask3;budget8;bound1 1", 0, 0);
        load("drive 100", 1, 9);
        load("drive 10 0; foefar", 1, 12);
        load("drive 10 0; bound 12", 1, 20);
    }

    /** The rule that is kept was told before: not behind, and not by the default. */
    private static void keepsAndRivals() {
        for (String word : new String[] {"master", "rival"}) {
            int at = 12 + word.length() + 6;
            load("drive 10 0; " + word + " keep 0", 2, at);
            load("drive 10 0; " + word + " keep 0; rule near", 2, at);
            load("drive 10 0; " + word + " keep 1; rule near; rule near", 2, at);
            String one = "drive 10 0; rule fcfs; ";
            load(one + word + " keep 0", 0, 0);
            load(one + word + " keep 1", 2, one.length() + word.length() + 6);
            load(one + word + " keep 1; rule scan", 2, one.length() + word.length() + 6);
            String six = "drive 10 0" + "; rule wrap".repeat(6) + "; ";
            load(six + word + " keep 5", 0, 0);
            load(six + word + " keep 6", 2, six.length() + word.length() + 6);
            // An error counts also in a statement that another one would follow.
            load("drive 10 0; " + word + " keep 0; " + word + " draw", 2, at);
        }
    }

    private static void oneTooMany() {
        String[] kinds = {"fcfs", "near", "scan", "wrap", "band 0", "band 99"};
        for (String kind : kinds) {
            String six = "drive 10 0" + (";rule " + kind).repeat(6);
            ArmDuel x = new ArmDuel();
            Check.due("3 six rules of " + kind, Check.load(x, six), 6);
            Check.due("3 six again", Check.load(x, six), 6);
            Check.due("3 a seventh of " + kind, Check.load(x, six + ";  rule " + kind), -100 - (six.length() + 3));
            Check.due("4 a seventh", x.loadError(), 3);
            Check.due("3 the six of before stay", x.setting(4), 6);
        }
        String six = "drive 10 0; rule fcfs; rule near; rule scan; rule wrap; rule band 0; rule band 99";
        load(six + "; foe far; rule", 3, six.length() + 11);
        load(six + "; foe far; rule band 100", 3, six.length() + 11);
        load(six + "; foe fair; rule near", 1, six.length() + 6);
        load(six + "; rul", 1, six.length() + 2);
        load(six + "; rule near; foe fair", 3, six.length() + 2);
        String asks = "drive 2 0" + ";ask 1".repeat(15);
        ArmDuel x = new ArmDuel();
        Check.load(x, asks);
        Check.due("5 15 asks", x.setting(10), 15);
        Check.load(x, asks + ";ask 0");
        Check.due("5 16 asks", x.setting(10), 16);
        Check.due("7 the last ask", x.ask(15), 0);
        Check.due("7 none behind it", x.ask(16), -1);
        load(asks + ";ask 0;ask 0", 3, asks.length() + 7);
        load(asks + ";ask 0; ask 2", 3, asks.length() + 8);
        load(asks + ";ask 0;ask", 3, asks.length() + 7);
        load(asks + ";ask 2;ask 0", 2, asks.length() + 5);
        load(six + ";ask 1".repeat(16) + "; rule near", 3, six.length() + 16 * 6 + 2);
    }

    private static void theLastOneCounts() {
        ArmDuel x = Check.drive("drive 10 0; cost 5 5; cost 99 99; cost 1 2; rule near; rule scan; master keep 1;"
                + " master lead; mix 3 3; mix 500 0; mix 4 5; foe hurt; foe none; foe ends; ask 3; ask 3; ask 3;"
                + " rival keep 1; rival draw; rival lead; budget 999; budget 0; budget 8; bound 9 9; bound 0 0;"
                + " bound 3 2");
        Check.due("3 the last one counts", Check.settings(x), 10, 0, 1, 2, 2, 1, -1, 4, 5, 3, 3, 3, 2, 8, 0);
        Check.due("3 the last rival", x.rival(0), 1);
        ArmDuel y = Check.drive("drive 10 0; rule near; rule scan; master lead; rival lead; master keep 1;"
                + " rival keep 1; foe ends; foe none");
        Check.due("3 keep behind lead", y.setting(5), 2);
        Check.due("3 the rule kept behind lead", y.setting(6), 1);
        Check.due("3 no foe behind ends", y.setting(9), 0);
        y.request(5);
        y.run(1);
        Check.due("3 the rival keeps the last one", y.rival(5), 1);
        Check.due("3 keep draw keep", Check.drive("drive 10 0; rule near; rule near; master keep 0; master draw;"
                + " master keep 1").nextRule(), 1);
    }

    private static void noRulesAndNoAsks() {
        ArmDuel x = Check.drive("drive 20 5; foe none", 9, 6);
        Check.due("3 one rule if none is told", x.setting(4), 1);
        Check.due("3 it is fcfs", x.rule(0, 0), 0);
        Check.due("3 it has no WIDTH", x.rule(0, 1), -1);
        Check.due("3 it is kept", x.setting(6), 0);
        Check.due("3 it serves the oldest", x.wouldServe(-1, 0), 9);
        Check.due("7 no asks", x.ask(0), -1);
        Check.due("5 no asks", x.setting(10), 0);
        ArmDuel draw = Check.drive("drive 20 5; master draw; rival lead");
        Check.due("3 draw without a rule told", draw.setting(5), 0);
        Check.due("3 nothing kept", draw.setting(6), -1);
        Check.due("21 the only rule", draw.nextRule(), 0);
    }

    /** A new object is as by the text "drive 10 0", and so is one behind a load of it. */
    private static void aNewObject() {
        ArmDuel told = Check.drive("drive 10 0");
        Portrait.same("1 as by the text", Portrait.of(new ArmDuel()), Portrait.of(told));
        ArmDuel used = Check.drive("drive 30 9; cost 9 9; rule near; rule scan; master draw; rival lead; foe hurt;"
                + " ask 4; budget 3; bound 0 0; mix 500 9", 3, 29);
        used.run(50);
        used.addAsk(3);
        Check.load(used, "drive 10 0");
        Portrait.same("3 begun anew by the text", Portrait.of(used), Portrait.of(new ArmDuel()));
    }

    private static void theBufferAtItsEnd() {
        ArmDuel x = new ArmDuel();
        for (int i = 0; i < 61; i++) {
            x.append(0x2020202020202020L);
        }
        Check.due("2 488", x.append(0), 488);
        Check.due("2 8 bytes to 496", x.append(0x2020202020202020L), 496);
        for (int i = 5; i <= 8; i++) {
            long bytes = i == 8 ? -1L : (1L << (8 * i)) - 1;
            Check.due("2 " + i + " bytes are too many", x.append(bytes), ArmDuel.FULL);
        }
        Check.due("2 3 bytes to 499", x.append(0x2000200000000020L), 499);
        for (int i = 0; i < 8; i++) {
            for (int j = 0; j < i; j++) {
                Check.due("2 2 bytes are too many", x.append(1L << (8 * i) | 0x80L << (8 * j)), ArmDuel.FULL);
            }
        }
        Check.due("2 nothing came in", x.append(0), 499);
        Check.due("2 500", x.append(0x0000002000000000L), 500);
        for (int i = 0; i < 8; i++) {
            Check.due("2 1 byte is too many", x.append(1L << (8 * i)), ArmDuel.FULL);
            Check.due("2 1 byte is too many", x.append(0xFFL << (8 * i)), ArmDuel.FULL);
        }
        Check.due("2 no byte fits always", x.append(0), 500);
        Check.due("3 500 spaces end too early", x.load(), -600);
        Check.due("2 the buffer is empty", x.append(0), 0);
    }

    /** Each single bit of a number is a byte of its own, at its own place. */
    private static void bytesOfANumber() {
        for (int bit = 0; bit < 64; bit++) {
            Check.due("2 bit " + bit, new ArmDuel().append(1L << bit), 1);
        }
        Check.due("2 all bits", new ArmDuel().append(-1L), 8);
        Check.due("2 the greatest number", new ArmDuel().append(Long.MAX_VALUE), 8);
        Check.due("2 the least number", new ArmDuel().append(Long.MIN_VALUE), 1);
        // Bytes of 0 between those of a text leave no trace.
        ArmDuel x = new ArmDuel();
        Check.due("2 'dr'", x.append(0x6400000000000072L), 2);
        Check.due("2 'ive'", x.append(0x0069007600650000L), 5);
        Check.due("2 '12'", x.append(0x0000003100000032L), 7);
        Check.due("2 ' 11'", x.append(0x2000310000310000L), 10);
        Check.due("2 the text is whole", x.load(), 1);
        Check.due("2 CYLINDERS", x.setting(0), 12);
        Check.due("2 START", x.setting(1), 11);
    }

    /** A text that fills the buffer counts to its last byte. */
    private static void wholeBuffers() {
        String text = "drive 10 0;foe far";
        ArmDuel x = Check.drive(" ".repeat(500 - text.length()) + text);
        Check.due("3 500 bytes", x.setting(9), 1);
        load(" ".repeat(499 - text.length()) + text + ";", 1, 500);
        load(" ".repeat(499 - text.length()) + text + "x", 1, 499 - 3);
        load(" ".repeat(499 - text.length()) + text + "7", 1, 499);
        load("drive 10 0" + ";ask 7".repeat(16) + ";foe ends".repeat(40), 0, 0);
        String costs = "drive 10 0" + ";cost 1 1".repeat(54);
        load(costs, 0, 0);
        load(costs + ";x", 1, costs.length() + 1);
        Check.due("3 the text has 496 bytes", costs.length(), 496);
    }

    private static void loadsOneBehindTheOther() {
        ArmDuel x = new ArmDuel();
        Check.due("4 no load yet", x.loadError(), 0);
        Check.due("3 a new object has an empty buffer", x.load(), -100);
        Check.due("4 too early", x.loadError(), 1);
        Check.due("3 two texts are one", Check.load(x, "drive 10 0; ask 10"), -116);
        Check.due("4 out of range", x.loadError(), 2);
        Check.write(x, "drive 12 ");
        Check.write(x, "3; rule near; rule near");
        Check.due("3 appended in parts", x.load(), 2);
        Check.due("4 none", x.loadError(), 0);
        Check.due("3 the buffer is empty behind it", x.load(), -100);
        Check.due("3 nothing changed", x.setting(0), 12);
        Check.due("3 the rules stay", x.setting(4), 2);
        Check.due("3 asks of 11 are in range of the text's own drive", Check.load(x, "drive 40 0; ask 39"), 1);
        Check.due("3 not of the drive of before", Check.load(x, "drive 12 0; ask 12"), -116);
    }

    private int below(int limit) {
        chance = chance * 6364136223846793005L + 1442695040888963407L;
        return (int) ((chance >>> 33) % limit);
    }

    private void spoilt() {
        for (int i = 0; i < 4000; i++) {
            StringBuilder text = new StringBuilder(below(12) == 0 ? "drive 100 99" : "drive 5 4");
            text.append(below(6) == 0 ? "" : "; rule near; rule scan");
            for (int many = below(i % 3 == 0 ? 36 : 9); many > 0; many--) {
                String[] parts = below(40) == 0 ? SPOILT_PARTS : PARTS;
                text.append(below(3) == 0 ? " ; " : ";").append(parts[below(parts.length)]);
            }
            for (int many = i % 2 == 0 ? 0 : below(4); many > 0 && text.length() > 0; many--) {
                spoil(text);
            }
            asTheModel(text.length() > 500 ? text.substring(0, 500) : text.toString());
        }
    }

    private void spoil(StringBuilder text) {
        int at = below(text.length());
        char other = ALPHABET.charAt(below(ALPHABET.length()));
        switch (below(4)) {
            case 0:
                text.deleteCharAt(at);
                break;
            case 1:
                text.insert(at, other);
                break;
            case 2:
                text.setCharAt(at, other);
                break;
            default:
                text.setLength(at);
                break;
        }
    }
}
