import java.util.ArrayList;
import java.util.List;

/**
 * Holds the class against the model: drives that are told by chance (always the same chance), calls that
 * change them, and then many questions to both. No object gets more than 512 calls.
 */
final class ModelTests {
    private static final int QUESTIONS = 34;
    private static final String[] KINDS = {"fcfs", "near", "scan", "wrap", "band"};
    private static final String[] MASTERS = {"draw", "lead", "keep"};
    private static final String[] FOES = {"none", "far", "mirror", "ends", "list", "hurt"};

    private final int number;
    private long chance;
    private Model model = new Model();
    private final ArmDuel x = new ArmDuel();
    private final Model[] snapshots = new Model[2];

    private ModelTests(int number) {
        this.number = number;
        chance = number * 7919L + 17;
    }

    static void run() {
        for (int number = 0; number < 240; number++) {
            ModelTests drive = new ModelTests(number);
            drive.tell(number % 8 == 0 ? 100 : 14);
            for (int step = 0; step < 14; step++) {
                drive.change(9);
            }
            for (int question = 0; question < 5 * QUESTIONS; question++) {
                drive.question(question % QUESTIONS, 12);
            }
        }
        for (int number = 1000; number < 1012; number++) {
            ModelTests drive = new ModelTests(number);
            drive.tell(100);
            for (int step = 0; step < 12; step++) {
                drive.change(number % 3 == 0 ? 20 : 60);
            }
            for (int question = 0; question < QUESTIONS; question++) {
                drive.question(question, number % 3 == 0 ? 20 : 100);
            }
        }
    }

    private int below(int limit) {
        chance = (chance * 6364136223846793005L + 1442695040888963407L);
        return (int) ((chance >>> 33) % limit);
    }

    private int within(int least, int most) {
        return least + below(most - least + 1);
    }

    /** Answers a number within a range, and one of its ends now and then. */
    private int edged(int least, int most) {
        int way = below(6);
        return way == 0 ? least : way == 1 ? most : within(least, most);
    }

    private void tell(int mostCylinders) {
        model.cylinders = edged(2, mostCylinders);
        model.start = edged(0, model.cylinders - 1);
        List<String> statements = new ArrayList<>();
        for (int i = below(8); i > 0; i--) {
            statements.add(statement());
        }
        for (int i = edged(0, 6); i > 0 && model.rules.size() < 6; i--) {
            statements.add(tellRule());
        }
        if (below(2) == 0 && !model.rules.isEmpty()) {
            statements.add(tellMaster());
        }
        if (below(3) > 0 && !model.rules.isEmpty()) {
            statements.add(tellRival());
        }
        if (model.rules.isEmpty()) {
            model.rules.add(new Model.Rule(0, -1));
        }
        model.begin();
        String text = "drive " + model.cylinders + " " + model.start;
        for (String statement : statements) {
            text += (below(2) == 0 ? ";" : " ; ") + statement;
        }
        due("load of " + text, Check.load(x, text), model.rules.size());
    }

    private String statement() {
        switch (below(7)) {
            case 0:
                model.seek = edged(0, 99);
                model.per = edged(1, 99);
                return "cost " + model.seek + " " + model.per;
            case 1:
                model.eta = edged(1, 500);
                model.seed = edged(0, 32767);
                return "mix " + model.eta + " " + model.seed;
            case 2:
                model.foe = below(6);
                return "foe " + FOES[model.foe];
            case 3:
                int cylinder = edged(0, model.cylinders - 1);
                model.asks.add(cylinder);
                return "ask " + cylinder;
            case 4:
                model.budget = within(0, 6);
                return "budget " + model.budget;
            case 5:
                model.base = within(0, 10 + model.seek + 5 * model.per);
                model.root = within(0, 3);
                return "bound " + model.base + " " + model.root;
            default:
                return model.rules.size() < 6 ? tellRule() : "cost " + model.seek + " " + model.per;
        }
    }

    private String tellRule() {
        int kind = below(5);
        int width = kind == 4 ? edged(0, below(2) == 0 ? 99 : 5) : -1;
        model.rules.add(new Model.Rule(kind, width));
        return "rule " + KINDS[kind] + (kind == 4 ? " " + width : "");
    }

    private String tellMaster() {
        model.masterKind = below(3);
        model.kept = model.masterKind == 2 ? below(model.rules.size()) : -1;
        return "master " + MASTERS[model.masterKind] + (model.masterKind == 2 ? " " + model.kept : "");
    }

    private String tellRival() {
        model.rivalKind = below(3);
        model.rivalKept = model.rivalKind == 2 ? below(model.rules.size()) : -1;
        return "rival " + MASTERS[model.rivalKind] + (model.rivalKind == 2 ? " " + model.rivalKept : "");
    }

    private void due(String what, double got, double want) {
        Check.due("drive " + number + ": " + what, got, want);
    }

    private void change(int mostRounds) {
        int way = below(16);
        if (way < 5) {
            requests();
        } else if (way < 10) {
            int many = within(1, mostRounds);
            model.run(many);
            due("run(" + many + ")", x.run(many), model.rounds());
        } else if (way < 14) {
            set(below(7));
        } else {
            snapshot(below(2), way == 14);
        }
    }

    private void requests() {
        for (int i = below(9); i > 0; i--) {
            int cylinder = edged(0, model.cylinders - 1);
            boolean isFull = model.itself.waiting.size() == 20;
            if (!isFull) {
                model.request(cylinder);
            }
            due("request(" + cylinder + ")", x.request(cylinder), isFull ? -2 : model.itself.waiting.size());
        }
    }

    private void set(int what) {
        switch (what) {
            case 0:
                int foe = below(6);
                due("setFoe", x.setFoe(foe), model.foe);
                model.foe = foe;
                break;
            case 1:
                int kind = below(3);
                int rule = below(model.rules.size());
                due("setMaster", x.setMaster(kind, rule), model.masterKind);
                model.masterKind = kind;
                model.kept = kind == 2 ? rule : -1;
                break;
            case 2:
                int eta = edged(1, 500);
                due("setEta", x.setEta(eta), model.eta);
                model.eta = eta;
                break;
            case 3:
                int budget = within(-1, 4);
                due("setBudget", x.setBudget(budget), model.budget);
                model.budget = budget;
                model.hurts = 0;
                break;
            case 4:
                int base = within(0, 60);
                due("setBound", x.setBound(base, 2), model.base);
                model.base = base;
                model.root = 2;
                break;
            case 5:
                int ask = edged(0, model.cylinders - 1);
                due("addAsk", x.addAsk(ask), model.asks.size());
                model.asks.add(ask);
                break;
            default:
                due("evenWeights", x.evenWeights(), model.weights.get(0));
                model.weights.replaceAll(weight -> 1000000L);
                break;
        }
    }

    private void snapshot(int slot, boolean isSave) {
        if (isSave) {
            snapshots[slot] = model.copy();
            due("saveSnapshot", x.saveSnapshot(slot), model.rounds());
        } else {
            int want = snapshots[slot] == null ? -1 : snapshots[slot].rounds();
            due("restoreSnapshot", x.restoreSnapshot(slot), want);
            model = want < 0 ? model : snapshots[slot].copy();
        }
    }

    private void question(int question, int mostRounds) {
        int rule = below(model.rules.size());
        int other = below(model.rules.size());
        int arm = within(-1, model.rules.size() - 1);
        int round = within(-1, model.rounds());
        if (question < 12) {
            askOfArms(question, arm, rule);
        } else if (question < 26) {
            askOfCosts(question, arm, rule, other, round);
        } else {
            askOfLater(question, within(1, mostRounds), arm, rule);
        }
    }

    private void askOfArms(int question, int arm, int rule) {
        Model.Arm of = model.armOf(arm);
        int what;
        switch (question) {
            case 0:
            case 1:
                what = below(15);
                due("setting(" + what + ")", x.setting(what), setting(what));
                break;
            case 2:
            case 3:
                what = below(6);
                due("rule(" + rule + ", " + what + ")", x.rule(rule, what), ruleNumber(rule, what));
                break;
            case 4:
                int index = within(-1, 16);
                int ask = index >= 0 && index < model.asks.size() ? model.asks.get(index) : -1;
                due("ask(" + index + ")", x.ask(index), ask);
                break;
            case 5:
            case 6:
                what = below(7);
                due("arm(" + arm + ", " + what + ")", x.arm(arm, what), armNumber(of, what));
                break;
            case 7:
                waiting(arm, of, within(0, 20));
                break;
            case 8:
                Model.Request request = model.chosen(of, model.rules.get(rule));
                due("wouldServe(" + arm + ", " + rule + ")", x.wouldServe(arm, rule),
                        request == null ? -1 : request.cylinder());
                break;
            case 9:
                tour(below(7), below(8));
                break;
            case 10:
                due("nextRule()", x.nextRule(), model.nextRule());
                break;
            default:
                served(below(22), below(5));
                break;
        }
    }

    private int setting(int what) {
        boolean isBound = model.base != -1;
        int[] all = {model.cylinders, model.start, model.seek, model.per, model.rules.size(),
            model.masterKind, model.kept, model.eta, model.seed, model.foe, model.asks.size(),
            model.base, isBound ? model.root : -1, model.budget, model.hurts};
        return all[what];
    }

    private int ruleNumber(int rule, int what) {
        int times = 0;
        int paid = 0;
        for (int round = 0; round < model.rounds(); round++) {
            if (model.taken.get(round) == rule) {
                times++;
                paid += model.itself.costIn(round);
            }
        }
        int[] all = {model.rules.get(rule).kind(), model.rules.get(rule).width(),
            (int) (long) model.weights.get(rule), times, model.own.get(rule).cost(), paid};
        return all[what];
    }

    private int armNumber(Model.Arm arm, int what) {
        int gone = 0;
        int longest = 0;
        for (Model.Service service : arm.served()) {
            gone += Math.abs(service.from() - service.request().cylinder());
            longest = Math.max(longest, service.round() - service.request().round());
        }
        int[] all = {arm.cylinder, arm.up ? 1 : 0, arm.waiting.size(), arm.cost(), gone, longest,
            arm.served().size()};
        return all[what];
    }

    private void waiting(int arm, Model.Arm of, int index) {
        Model.Request request = index < of.waiting.size() ? of.waiting.get(index) : null;
        due("waiting(" + arm + ", " + index + ", 0)", x.waiting(arm, index, 0),
                request == null ? -1 : request.cylinder());
        due("waiting(" + arm + ", " + index + ", 1)", x.waiting(arm, index, 1),
                request == null ? -1 : request.round());
    }

    private void tour(int many, int place) {
        boolean isThere = many <= model.itself.waiting.size();
        int[] tour = isThere ? model.tour(many) : new int[0];
        due("optimum(" + many + ")", x.optimum(many), isThere ? tour[0] : -1);
        if (many > 0) {
            due("optimumAt(" + many + ", " + place + ")", x.optimumAt(many, place),
                    isThere && place < many ? tour[place + 1] : -1);
        }
    }

    private void served(int index, int what) {
        List<Model.Service> all = model.itself.served();
        int want = -1;
        if (index < all.size() && index < 20) {
            Model.Service service = all.get(all.size() - 1 - index);
            int[] numbers = {service.round(), service.request().cylinder(), service.request().round(),
                service.cost(), service.rule()};
            want = numbers[what];
        }
        due("served(" + index + ", " + what + ")", x.served(index, what), want);
    }

    private void askOfCosts(int question, int arm, int rule, int other, int round) {
        boolean isMade = round >= 0 && round < model.rounds();
        int what;
        switch (question) {
            case 12:
                what = below(5);
                due("regret(" + what + ")", x.regret(what), regret(what));
                break;
            case 13:
                due("best()", x.best(), model.best());
                due("rounds()", x.rounds(), model.rounds());
                break;
            case 14:
                due("regretTo(" + rule + ")", x.regretTo(rule), model.itself.cost() - model.own.get(rule).cost());
                break;
            case 15:
                due("swapCost(" + rule + ", " + other + ")", x.swapCost(rule, other), model.swapCost(rule, other));
                due("bestSwap(" + rule + ")", x.bestSwap(rule), model.bestSwap(rule));
                break;
            case 16:
                int sum = 0;
                for (int i = 0; i < model.rules.size(); i++) {
                    sum += model.swapCost(i, i) - model.swapCost(i, model.bestSwap(i));
                }
                due("swapRegret()", x.swapRegret(), sum);
                break;
            case 17:
                what = below(6);
                due("rival(" + what + ")", x.rival(what), rival(what));
                break;
            case 18:
                due("cost(" + arm + ", " + round + ")", x.cost(arm, round),
                        isMade ? model.armOf(arm).costIn(round) : -2000000000);
                due("taken(" + round + ")", x.taken(round), isMade ? model.taken.get(round) : -1);
                break;
            case 19:
                what = below(4);
                due("bestPair(" + what + ")", x.bestPair(what), model.bestPair()[what]);
                break;
            case 20:
                due("cheaper(" + rule + ", " + other + ")", x.cheaper(rule, other), cheaper(rule, other));
                break;
            case 21:
                long leads = model.bests.stream().filter(best -> best == rule).count();
                due("leads(" + rule + ")", x.leads(rule), leads);
                break;
            case 22:
                due("switches()", x.switches(), switches());
                due("streak(" + rule + ")", x.streak(rule), streak(rule));
                break;
            case 23:
                windows(rule, within(1, model.rounds() + 1));
                break;
            case 24:
                windowOf(Math.max(0, round), within(1, model.rounds() + 1));
                break;
            default:
                shares(arm, rule);
                break;
        }
    }

    private int regret(int what) {
        int many = 0;
        int first = -1;
        int greatest = model.regrets.isEmpty() ? 0 : model.regrets.get(0);
        for (int round = 0; round < model.rounds(); round++) {
            greatest = Math.max(greatest, model.regrets.get(round));
            if (model.breaches.get(round)) {
                first = many == 0 ? round : first;
                many++;
            }
        }
        int[] all = {model.regret(), model.bound(), many, greatest, first};
        return all[what];
    }

    private int rival(int what) {
        if (model.rivalKind == -1) {
            return -2000000000;
        }
        int wins = 0;
        for (int round = 0; round < model.rounds(); round++) {
            wins += model.rival.costIn(round) < model.itself.costIn(round) ? 1 : 0;
        }
        int[] all = {model.rivalKind, model.rival.cylinder, model.rival.cost(),
            model.rival.cost() - model.own.get(model.best()).cost(), wins,
            model.rounds() == 0 ? -1 : model.rivalTaken.get(model.rounds() - 1)};
        return all[what];
    }

    private int cheaper(int rule, int other) {
        int many = 0;
        for (int round = 0; round < model.rounds(); round++) {
            many += model.own.get(rule).costIn(round) < model.own.get(other).costIn(round) ? 1 : 0;
        }
        return many;
    }

    private int switches() {
        int many = 0;
        for (int round = 1; round < model.rounds(); round++) {
            many += (int) model.taken.get(round) == model.taken.get(round - 1) ? 0 : 1;
        }
        return many;
    }

    private int streak(int rule) {
        int greatest = 0;
        for (int from = 0; from < model.rounds(); from++) {
            int to = from;
            while (to < model.rounds() && model.taken.get(to) == rule) {
                to++;
            }
            greatest = Math.max(greatest, to - from);
        }
        return greatest;
    }

    private void windows(int rule, int length) {
        if (length <= 1000) {
            due("dearest(" + rule + ", " + length + ")", x.dearest(rule, length), model.window(length, rule));
            due("worstWindow(" + length + ")", x.worstWindow(length), model.window(length, -1));
        }
    }

    private void windowOf(int from, int length) {
        boolean isMade = from + length <= model.rounds();
        if (length <= 1000) {
            due("windowRegret(" + from + ", " + length + ")", x.windowRegret(from, length),
                    isMade ? model.windowRegret(from, length) : -2000000000);
            due("windowBest(" + from + ", " + length + ")", x.windowBest(from, length),
                    isMade ? model.best(from, from + length) : -1);
        }
    }

    private void shares(int arm, int rule) {
        double mean = model.rounds() == 0 ? 0.0 : (double) model.armOf(arm).cost() / (double) model.rounds();
        due("meanCost(" + arm + ")", x.meanCost(arm), mean);
        long sum = 0;
        for (long weight : model.weights) {
            sum += weight;
        }
        due("share(" + rule + ")", x.share(rule), (float) (long) model.weights.get(rule) / (float) sum);
    }

    private void askOfLater(int question, int many, int arm, int rule) {
        boolean isFull = model.itself.waiting.size() == 20;
        switch (question) {
            case 26:
                int cylinder = below(model.cylinders);
                due("hurtOf(" + cylinder + ")", x.hurtOf(cylinder), isFull ? -2000000000 : model.hurtOf(cylinder));
                break;
            case 27:
                due("worst()", x.worst(), isFull ? -1 : model.worst());
                break;
            case 28:
                due("regretIn(" + many + ")", x.regretIn(many), model.behind(many).regret());
                break;
            case 29:
                due("costIn(" + arm + ", " + many + ")", x.costIn(arm, many),
                        model.behind(many).armOf(arm).cost() - model.armOf(arm).cost());
                break;
            case 30:
                if (model.foe != 5 && model.cylinders < 30) {
                    due("breachIn()", x.breachIn(), model.breachIn());
                }
                break;
            case 31:
                Model keeping = model.copy();
                keeping.masterKind = 2;
                keeping.kept = rule;
                keeping.run(many);
                due("regretKeeping(" + rule + ", " + many + ")", x.regretKeeping(rule, many), keeping.regret());
                break;
            case 32:
                Model against = model.copy();
                against.foe = below(6);
                int kind = against.foe;
                against.run(many);
                due("regretAgainst(" + kind + ", " + many + ")", x.regretAgainst(kind, many), against.regret());
                break;
            default:
                Model then = model.behind(many);
                due("rivalIn(" + many + ")", x.rivalIn(many), model.rivalKind == -1
                        ? -2000000000 : then.itself.cost() - then.rival.cost());
                if (number % 5 == 1 && model.cylinders < 20) {
                    int regret = model.regret() + below(10 * (model.seek + model.per));
                    due("budgetFor(" + regret + ")", x.budgetFor(regret), model.budgetFor(regret));
                }
                break;
        }
    }
}
