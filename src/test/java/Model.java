import java.util.ArrayList;
import java.util.List;

/**
 * The drive once more, in the words of the document and without a thought for speed: it keeps all that
 * ever happened, and tries out what the class reckons. The class is held against it in ModelTests.
 */
final class Model {
    private static final int NONE = -1;
    private static final int NO_VALUE = -2000000000;

    /** A request with its cylinder and the round in which it came. */
    record Request(int cylinder, int round) {
    }

    /** A request that was served, with the distance to it, the cost, and the rule it was served by. */
    record Service(Request request, int round, int from, int cost, int rule) {
    }

    /** A rule with its kind and WIDTH. */
    record Rule(int kind, int width) {
    }

    /** An arm, with all that it did, round by round; null for a round in which nothing waited. */
    static final class Arm {
        int cylinder;
        boolean up = true;
        List<Request> waiting = new ArrayList<>();
        List<Service> services = new ArrayList<>();

        Arm(int start) {
            cylinder = start;
        }

        Arm copy() {
            Arm other = new Arm(cylinder);
            other.up = up;
            other.waiting.addAll(waiting);
            other.services.addAll(services);
            return other;
        }

        int costIn(int round) {
            Service service = services.get(round);
            return service == null ? 0 : service.cost();
        }

        int cost(int from, int to) {
            int sum = 0;
            for (int round = from; round < to; round++) {
                sum += costIn(round);
            }
            return sum;
        }

        int cost() {
            return cost(0, services.size());
        }

        List<Service> served() {
            List<Service> all = new ArrayList<>(services);
            all.removeIf(service -> service == null);
            return all;
        }
    }

    int cylinders = 10;
    int start = 0;
    int seek = 0;
    int per = 1;
    List<Rule> rules = new ArrayList<>();
    int masterKind = 2;
    int kept = 0;
    int eta = 100;
    int seed = 1;
    int foe = 0;
    List<Integer> asks = new ArrayList<>();
    int rivalKind = NONE;
    int rivalKept = NONE;
    int budget = NONE;
    int base = NONE;
    int root = NONE;

    int rivalSeed;
    int hurts = 0;
    int lastAsk = NONE;
    Arm itself;
    Arm rival;
    List<Arm> own = new ArrayList<>();
    List<Long> weights = new ArrayList<>();
    List<Integer> taken = new ArrayList<>();
    List<Integer> rivalTaken = new ArrayList<>();
    List<Integer> regrets = new ArrayList<>();
    List<Integer> bests = new ArrayList<>();
    List<Boolean> breaches = new ArrayList<>();
    List<int[]> swapCosts = new ArrayList<>();

    /** To be called when all settings are told. */
    void begin() {
        itself = new Arm(start);
        rival = new Arm(start);
        rivalSeed = seed;
        for (int rule = 0; rule < rules.size(); rule++) {
            own.add(new Arm(start));
            weights.add(1000000L);
        }
    }

    Model copy() {
        Model other = new Model();
        other.cylinders = cylinders;
        other.start = start;
        other.seek = seek;
        other.per = per;
        other.rules.addAll(rules);
        other.masterKind = masterKind;
        other.kept = kept;
        other.eta = eta;
        other.seed = seed;
        other.foe = foe;
        other.asks.addAll(asks);
        other.rivalKind = rivalKind;
        other.rivalKept = rivalKept;
        other.budget = budget;
        other.base = base;
        other.root = root;
        other.rivalSeed = rivalSeed;
        other.hurts = hurts;
        other.lastAsk = lastAsk;
        other.itself = itself.copy();
        other.rival = rival.copy();
        for (Arm arm : own) {
            other.own.add(arm.copy());
        }
        other.weights.addAll(weights);
        other.taken.addAll(taken);
        other.rivalTaken.addAll(rivalTaken);
        other.regrets.addAll(regrets);
        other.bests.addAll(bests);
        other.breaches.addAll(breaches);
        other.swapCosts.addAll(swapCosts);
        return other;
    }

    int rounds() {
        return taken.size();
    }

    int price(int from, int to) {
        return from == to ? 0 : seek + per * Math.abs(from - to);
    }

    void request(int cylinder) {
        Request request = new Request(cylinder, rounds());
        itself.waiting.add(request);
        rival.waiting.add(request);
        for (Arm arm : own) {
            arm.waiting.add(request);
        }
    }

    /** The oldest of those within the given cylinders that lies nearest. */
    private static Request nearestWithin(Arm arm, int least, int most) {
        for (int distance = 0; distance <= 100; distance++) {
            for (Request request : arm.waiting) {
                boolean isWithin = request.cylinder() >= least && request.cylinder() <= most;
                if (isWithin && Math.abs(request.cylinder() - arm.cylinder) == distance) {
                    return request;
                }
            }
        }
        return null;
    }

    Request chosen(Arm arm, Rule rule) {
        if (arm.waiting.isEmpty()) {
            return null;
        }
        int at = arm.cylinder;
        Request below = nearestWithin(arm, 0, at);
        Request above = nearestWithin(arm, at, 100);
        switch (rule.kind()) {
            case 0:
                return arm.waiting.get(0);
            case 1:
                boolean isBelow = above == null
                        || below != null && at - below.cylinder() <= above.cylinder() - at;
                return isBelow ? below : above;
            case 2:
                Request ahead = arm.up ? above : below;
                return ahead != null ? ahead : arm.up ? below : above;
            case 3:
                for (int cylinder = 0; above == null; cylinder++) {
                    above = nearestWithin(arm, cylinder, cylinder);
                }
                return above;
            default:
                for (Request request : arm.waiting) {
                    if (Math.abs(request.cylinder() - at) <= rule.width()) {
                        return request;
                    }
                }
                return arm.waiting.get(0);
        }
    }

    private void serve(Arm arm, int rule, int round) {
        Request request = chosen(arm, rules.get(rule));
        if (request == null) {
            arm.services.add(null);
            return;
        }
        int ahead = request.cylinder() - arm.cylinder;
        if (rules.get(rule).kind() == 2 && (arm.up ? ahead < 0 : ahead > 0)) {
            arm.up = !arm.up;
        }
        arm.services.add(new Service(request, round, arm.cylinder, price(arm.cylinder, request.cylinder()), rule));
        arm.waiting.remove(request);
        arm.cylinder = request.cylinder();
    }

    int best(int from, int to) {
        int found = 0;
        for (int rule = 0; rule < rules.size(); rule++) {
            if (own.get(rule).cost(from, to) < own.get(found).cost(from, to)) {
                found = rule;
            }
        }
        return found;
    }

    int best() {
        return best(0, rounds());
    }

    int regret() {
        return itself.cost() - own.get(best()).cost();
    }

    private int draw(int seedNow) {
        long sum = 0;
        for (long weight : weights) {
            sum += weight;
        }
        long x = seedNow % sum;
        int rule = 0;
        long upTo = weights.get(0);
        while (upTo <= x) {
            rule++;
            upTo += weights.get(rule);
        }
        return rule;
    }

    private int ruleBy(int kind, int keptRule, int seedThen) {
        return kind == 0 ? draw(seedThen) : kind == 1 ? best() : keptRule;
    }

    static int next(int seedNow) {
        return (1103 * seedNow + 12345) % 32768;
    }

    int nextRule() {
        return ruleBy(masterKind, kept, next(seed));
    }

    int hurtOf(int cylinder) {
        Model then = copy();
        then.request(cylinder);
        then.foe = 0;
        then.round();
        return then.regret();
    }

    int worst() {
        int found = 0;
        for (int cylinder = 0; cylinder < cylinders; cylinder++) {
            if (hurtOf(cylinder) > hurtOf(found)) {
                found = cylinder;
            }
        }
        return found;
    }

    private void moveFoe() {
        if (itself.waiting.size() == 20 || foe == 0) {
            return;
        }
        int end = cylinders - 1;
        boolean isList = foe == 4 || foe == 5 && budget != NONE && hurts >= budget;
        if (isList) {
            if (!asks.isEmpty()) {
                lastAsk = lastAsk + 1 >= asks.size() ? 0 : lastAsk + 1;
                request(asks.get(lastAsk));
            }
        } else if (foe == 1) {
            request(end - itself.cylinder > itself.cylinder ? end : 0);
        } else if (foe == 2) {
            request(end - itself.cylinder);
        } else if (foe == 3) {
            request(rounds() % 2 == 0 ? end : 0);
        } else {
            request(worst());
            hurts++;
        }
    }

    void round() {
        moveFoe();
        int round = rounds();
        int rule = nextRule();
        int rivalRule = rivalKind == NONE ? 0 : ruleBy(rivalKind, rivalKept, next(rivalSeed));
        seed = masterKind == 0 ? next(seed) : seed;
        rivalSeed = rivalKind == 0 ? next(rivalSeed) : rivalSeed;
        int[] swaps = new int[rules.size()];
        for (int other = 0; other < rules.size(); other++) {
            Request request = chosen(itself, rules.get(other));
            swaps[other] = request == null ? 0 : price(itself.cylinder, request.cylinder());
        }
        swapCosts.add(swaps);
        serve(itself, rule, round);
        serve(rival, rivalRule, round);
        for (int other = 0; other < rules.size(); other++) {
            serve(own.get(other), other, round);
        }
        loseWeights(round);
        taken.add(rule);
        rivalTaken.add(rivalRule);
        regrets.add(regret());
        bests.add(best());
        breaches.add(base != NONE && regret() > bound());
    }

    private void loseWeights(int round) {
        long length = seek + (long) per * (cylinders - 1);
        long greatest = 0;
        for (int rule = 0; rule < rules.size(); rule++) {
            long weight = weights.get(rule);
            weight = weight - weight * eta * own.get(rule).costIn(round) / (1000 * length);
            weights.set(rule, weight < 1 ? 1 : weight);
            greatest = Math.max(greatest, weight);
        }
        if (greatest < 1000) {
            weights.replaceAll(weight -> weight * 1000);
        }
    }

    int bound() {
        if (base == NONE) {
            return NO_VALUE;
        }
        return base + root * (int) Math.floor(Math.sqrt(rounds()) + 1e-9);
    }

    void run(int many) {
        for (int i = 0; i < many; i++) {
            round();
        }
    }

    Model behind(int many) {
        Model then = copy();
        then.run(many);
        return then;
    }

    Arm armOf(int arm) {
        return arm == -1 ? itself : own.get(arm);
    }

    int swapCost(int rule, int other) {
        int sum = 0;
        for (int round = 0; round < rounds(); round++) {
            sum += taken.get(round) == rule ? swapCosts.get(round)[other] : 0;
        }
        return sum;
    }

    int bestSwap(int rule) {
        int found = 0;
        for (int other = 0; other < rules.size(); other++) {
            if (swapCost(rule, other) < swapCost(rule, found)) {
                found = other;
            }
        }
        return found;
    }

    /** The sum, the first rule, the second rule and the rounds of the first. */
    int[] bestPair() {
        int[] found = null;
        for (int many = 0; many <= rounds(); many++) {
            for (int first = 0; first < rules.size(); first++) {
                int ahead = own.get(first).cost(0, many);
                for (int second = 0; second < rules.size(); second++) {
                    int sum = ahead + own.get(second).cost(many, rounds());
                    if (found == null || sum < found[0]) {
                        found = new int[] {sum, first, second, many};
                    }
                }
            }
        }
        return found;
    }

    int windowRegret(int from, int length) {
        return itself.cost(from, from + length) - own.get(best(from, from + length)).cost(from, from + length);
    }

    /** The first window with the greatest regret, or with the greatest cost of a rule if one is told. */
    int window(int length, int rule) {
        int found = NONE;
        int most = 0;
        for (int from = 0; from + length <= rounds(); from++) {
            int value = rule == NONE ? windowRegret(from, length) : own.get(rule).cost(from, from + length);
            if (found == NONE || value > most) {
                found = from;
                most = value;
            }
        }
        return found;
    }

    /** The cost and then the indexes of the first order with the least cost of the oldest requests. */
    int[] tour(int many) {
        int[] found = new int[many + 1];
        found[0] = Integer.MAX_VALUE;
        extend(new int[many + 1], 0, itself.cylinder, found);
        return found;
    }

    private void extend(int[] order, int done, int at, int[] found) {
        int many = order.length - 1;
        if (done == many) {
            if (order[0] < found[0]) {
                System.arraycopy(order, 0, found, 0, order.length);
            }
            return;
        }
        for (int next = 0; next < many; next++) {
            boolean isDone = false;
            for (int i = 1; i <= done; i++) {
                isDone |= order[i] == next;
            }
            if (!isDone) {
                int cylinder = itself.waiting.get(next).cylinder();
                int price = price(at, cylinder);
                order[0] += price;
                order[done + 1] = next;
                extend(order, done + 1, cylinder, found);
                order[0] -= price;
            }
        }
    }

    int budgetFor(int regret) {
        for (int least = 0; least <= 20; least++) {
            Model then = copy();
            then.foe = 5;
            then.budget = least;
            then.hurts = 0;
            then.run(20);
            if (then.regret() >= regret) {
                return least;
            }
        }
        return NONE;
    }

    int breachIn() {
        Model then = copy();
        for (int passed = 1; passed <= 200 && base != NONE; passed++) {
            then.round();
            if (then.breaches.get(then.rounds() - 1)) {
                return passed;
            }
        }
        return NONE;
    }
}
