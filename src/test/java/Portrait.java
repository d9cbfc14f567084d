import java.util.ArrayList;
import java.util.List;

/**
 * All that can be seen of a drive, as lines of calls and answers, the buffer, the result of the latest load
 * and the snapshots included; then some rounds are made, so that what cannot be seen shows itself too.
 * It takes some 330 calls of the 512 of an object, and leaves the drive changed.
 */
final class Portrait {
    private final ArmDuel x;
    private final List<String> lines = new ArrayList<>();
    private final int rules;

    private Portrait(ArmDuel x) {
        this.x = x;
        rules = x.setting(4);
    }

    static List<String> of(ArmDuel x) {
        Portrait portrait = new Portrait(x);
        portrait.draw();
        return portrait.lines;
    }

    /** Checks that two drives look alike. */
    static void same(String what, List<String> got, List<String> want) {
        Check.due(what + ": lines", got.size(), want.size());
        for (int i = 0; i < Math.min(got.size(), want.size()); i++) {
            if (got.get(i).equals(want.get(i))) {
                Check.right++;
            } else {
                Check.wrong++;
                System.out.println(what + " shows " + got.get(i) + ", due is " + want.get(i));
            }
        }
    }

    private void note(String call, double answer) {
        lines.add(call + " = " + answer);
    }

    private void draw() {
        note("append(0)", x.append(0));
        note("loadError()", x.loadError());
        drawSettings();
        drawArms();
        drawCosts();
        drawRounds();
        if (x.rounds() <= 993) {
            x.run(7);
            drawRounds();
        }
        x.request(0);
        note("regretIn(5)", x.regretIn(5));
        note("restoreSnapshot(1)", x.restoreSnapshot(1));
        note("of it", x.arm(-1, 3));
        note("restoreSnapshot(0)", x.restoreSnapshot(0));
        note("of it", x.arm(-1, 3));
        note("of it", x.setting(0));
    }

    private void drawSettings() {
        for (int what = 0; what < 15; what++) {
            note("setting(" + what + ")", x.setting(what));
        }
        for (int rule = 0; rule < rules; rule++) {
            for (int what = 0; what < 6; what++) {
                note("rule(" + rule + ", " + what + ")", x.rule(rule, what));
            }
        }
        for (int i = 0; i < 16; i++) {
            note("ask(" + i + ")", x.ask(i));
        }
    }

    private void drawArms() {
        for (int arm = -1; arm < rules; arm++) {
            for (int what = 0; what < 7; what++) {
                note("arm(" + arm + ", " + what + ")", x.arm(arm, what));
            }
        }
        int waits = x.arm(-1, 2);
        for (int i = 0; i < waits; i++) {
            note("waiting(-1, " + i + ", 0)", x.waiting(-1, i, 0));
            note("waiting(-1, " + i + ", 1)", x.waiting(-1, i, 1));
            note("waiting(" + (rules - 1) + ", " + i + ", 0)", x.waiting(rules - 1, i, 0));
        }
        note("nextRule()", x.nextRule());
        note("worst()", x.worst());
        note("served(19, 0)", x.served(19, 0));
    }

    private void drawCosts() {
        for (int rule = 0; rule < rules; rule++) {
            note("leads(" + rule + ")", x.leads(rule));
            note("streak(" + rule + ")", x.streak(rule));
            note("swapCost(0, " + rule + ")", x.swapCost(0, rule));
        }
        note("swapRegret()", x.swapRegret());
        note("switches()", x.switches());
        for (int what = 0; what < 4; what++) {
            note("bestPair(" + what + ")", x.bestPair(what));
        }
    }

    /** What changes with each round. */
    private void drawRounds() {
        note("rounds()", x.rounds());
        for (int what = 0; what < 5; what++) {
            note("regret(" + what + ")", x.regret(what));
            note("served(0, " + what + ")", x.served(0, what));
        }
        for (int what = 0; what < 6; what++) {
            note("rival(" + what + ")", x.rival(what));
        }
        for (int rule = 0; rule < rules; rule++) {
            note("weight of " + rule, x.rule(rule, 2));
            note("cost(" + rule + ")", x.cost(rule, x.rounds() - 1));
        }
        note("taken", x.taken(x.rounds() - 1));
        note("seed", x.setting(8));
        note("asked", x.setting(14));
    }
}
