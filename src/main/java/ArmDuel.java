/**
 * An arm of a drive against an adversary: requests for cylinders that are chosen to hurt, rules by
 * which an arm serves them, one arm that takes a rule anew in each round, and one arm of its own for
 * each rule; what rounds cost, regret against the best fixed rule, and a bound that is checked.
 */
public final class ArmDuel {
    /** There is no such thing. */
    public static final int NONE = -1;
    /** A limit would be exceeded. */
    public static final int FULL = -2;
    /** There is no such value. */
    public static final int NO_VALUE = -2000000000;

    private static final int MOST_BYTES = 500;
    private static final int MOST_CYLINDERS = 100;
    private static final int MOST_RULES = 6;
    private static final int MOST_ASKS = 16;
    private static final int MOST_WAITING = 20;
    private static final int MOST_ROUNDS = 1000;
    private static final int MOST_AT_ONCE = 200;
    private static final int MOST_SERVED_KEPT = 20;
    private static final int MOST_IN_TOUR = 8;
    private static final int MOST_ETA = 500;
    private static final int MOST_BUDGET = 999;
    private static final int MOST_BASE = 99999;
    private static final int MOST_ROOT = 9999;
    private static final int SNAPSHOTS = 2;
    private static final int FIRST_WEIGHT = 1000000;
    private static final int SMALL_WEIGHT = 1000;
    private static final int BUDGET_ROUNDS = 20;

    private static final int DRAW = 0;
    private static final int LEAD = 1;
    private static final int KEEP = 2;

    private static final int FCFS = 0;
    private static final int NEAR = 1;
    private static final int SCAN = 2;
    private static final int WRAP = 3;
    private static final int BAND = 4;

    private static final int NO_FOE = 0;
    private static final int FAR = 1;
    private static final int MIRROR = 2;
    private static final int ENDS = 3;
    private static final int LIST = 4;
    private static final int HURT = 5;

    private final byte[] buffer = new byte[MOST_BYTES];
    private int buffered = 0;
    private int latestError = 0;
    private final Reader reader = new Reader();
    private final Game game = new Game();
    private final Duel trial = new Duel();
    private final Tour tour = new Tour();
    private final Game[] snapshots = new Game[SNAPSHOTS];

    /** Creates a drive as by the text "drive 10 0". */
    public ArmDuel() {
        reader.draft.becomeDefault();
        reader.draft.completeRules();
        game.begin(reader.draft);
    }

    // ---- descriptions

    /** Appends the bytes of a number that are not 0, the most significant one first. */
    public int append(long bytes) {
        int more = 0;
        for (int shift = 56; shift >= 0; shift -= 8) {
            if (((bytes >>> shift) & 255) != 0) {
                more++;
            }
        }
        if (buffered + more > MOST_BYTES) {
            return FULL;
        }
        for (int shift = 56; shift >= 0; shift -= 8) {
            byte one = (byte) (bytes >>> shift);
            if (one != 0 && buffered < buffer.length) {
                buffer[buffered] = one;
                buffered++;
            }
        }
        return buffered;
    }

    /** Reads the buffer as a description and begins anew. */
    public int load() {
        reader.readText(buffer, buffered);
        buffered = 0;
        latestError = reader.error;
        if (reader.error != 0) {
            return -100 - reader.errorAt;
        }
        game.begin(reader.draft);
        return game.duel.settings.ruleCount;
    }

    /** Returns the error number of the latest load, 0 without one. */
    public int loadError() {
        return latestError;
    }

    /** Returns a setting. */
    public int setting(int what) throws IllegalArgumentException {
        Duel duel = game.duel;
        Settings settings = duel.settings;
        switch (what) {
            case 0: return settings.cylinders;
            case 1: return settings.start;
            case 2: return settings.seek;
            case 3: return settings.per;
            case 4: return settings.ruleCount;
            case 5: return settings.masterKind;
            case 6: return settings.masterRule;
            case 7: return settings.eta;
            case 8: return duel.seed;
            case 9: return settings.foe;
            case 10: return settings.askCount;
            case 11: return settings.base;
            case 12: return settings.root;
            case 13: return settings.budget;
            case 14: return duel.hurtsAsked;
            default: throw new IllegalArgumentException("no such setting");
        }
    }

    /** Returns a number of a rule. */
    public int rule(int rule, int what) throws IndexOutOfBoundsException, IllegalArgumentException {
        requireRule(rule);
        switch (what) {
            case 0: return game.duel.settings.kindOf(rule);
            case 1: return game.duel.settings.widthOf(rule);
            case 2: return game.duel.weights[rule];
            case 3: return game.records.timesTaken[rule];
            case 4: return game.duel.own[rule].paid;
            case 5: return game.records.paidByTaking[rule];
            default: throw new IllegalArgumentException("no such number of a rule");
        }
    }

    /** Returns an ask of the list. */
    public int ask(int index) {
        return game.duel.settings.askAt(index);
    }

    // ---- changes

    /** Adds a request for all arms. */
    public int request(int cylinder) throws IllegalArgumentException {
        requireCylinder(cylinder);
        if (game.duel.isFull()) {
            return FULL;
        }
        game.duel.addForAll(cylinder);
        return game.duel.itself.waits;
    }

    /** Sets the foe. */
    public int setFoe(int kind) throws IllegalArgumentException {
        requireWithin(kind, NO_FOE, HURT);
        int previous = game.duel.settings.foe;
        game.duel.settings.foe = kind;
        return previous;
    }

    /** Sets the master. */
    public int setMaster(int kind, int rule) throws IllegalArgumentException, IndexOutOfBoundsException {
        requireWithin(kind, DRAW, KEEP);
        if (kind == KEEP) {
            requireRule(rule);
        }
        int previous = game.duel.settings.masterKind;
        game.duel.settings.takeMaster(kind, rule);
        return previous;
    }

    /** Sets ETA. */
    public int setEta(int eta) throws IllegalArgumentException {
        requireWithin(eta, 1, MOST_ETA);
        int previous = game.duel.settings.eta;
        game.duel.settings.eta = eta;
        return previous;
    }

    /** Sets the budget of the foe hurt, from now on. */
    public int setBudget(int budget) throws IllegalArgumentException {
        requireWithin(budget, NONE, MOST_BUDGET);
        int previous = game.duel.settings.budget;
        game.duel.takeBudget(budget);
        return previous;
    }

    /** Sets the bound. */
    public int setBound(int base, int root) throws IllegalArgumentException {
        requireWithin(base, 0, MOST_BASE);
        requireWithin(root, 0, MOST_ROOT);
        int previous = game.duel.settings.base;
        game.duel.settings.base = base;
        game.duel.settings.root = root;
        return previous;
    }

    /** Adds an ask at the end of the list. */
    public int addAsk(int cylinder) throws IllegalArgumentException {
        requireCylinder(cylinder);
        Settings settings = game.duel.settings;
        if (settings.askCount >= MOST_ASKS) {
            return FULL;
        }
        settings.putAsk(cylinder);
        return settings.askCount - 1;
    }

    /** Makes all weights as they are at first. */
    public int evenWeights() {
        int previous = game.duel.weights[0];
        game.duel.resetWeights();
        return previous;
    }

    // ---- arms

    /** Returns a number of an arm. */
    public int arm(int arm, int what) throws IndexOutOfBoundsException, IllegalArgumentException {
        requireArm(arm);
        Arm found = game.duel.armOf(arm);
        switch (what) {
            case 0: return found.cylinder;
            case 1: return found.up ? 1 : 0;
            case 2: return found.waits;
            case 3: return found.paid;
            case 4: return found.gone;
            case 5: return found.longestWait;
            case 6: return found.servedCount;
            default: throw new IllegalArgumentException("no such number of an arm");
        }
    }

    /** Returns a request that waits for an arm. */
    public int waiting(int arm, int index, int what)
            throws IndexOutOfBoundsException, IllegalArgumentException {
        requireArm(arm);
        requireWithin(what, 0, 1);
        Arm found = game.duel.armOf(arm);
        if (index < 0 || index >= found.waits) {
            return NONE;
        }
        return what == 0 ? found.wanted[index] : found.cameIn[index];
    }

    /** Returns the cylinder that an arm would serve next by a rule. */
    public int wouldServe(int arm, int rule) throws IndexOutOfBoundsException {
        requireArm(arm);
        requireRule(rule);
        Settings settings = game.duel.settings;
        Arm found = game.duel.armOf(arm);
        int index = found.choose(settings.kindOf(rule), settings.widthOf(rule));
        return index == NONE ? NONE : found.wanted[index];
    }

    /** Finds the least cost of serving the oldest requests in any order. */
    public int optimum(int many) throws IllegalArgumentException {
        requireWithin(many, 0, MOST_IN_TOUR);
        if (many > game.duel.itself.waits) {
            return NONE;
        }
        tour.plan(game.duel.settings, game.duel.itself, many);
        return tour.leastCost();
    }

    /** Returns a request in the first of the orders with the least cost. */
    public int optimumAt(int many, int place) throws IllegalArgumentException {
        requireWithin(many, 1, MOST_IN_TOUR);
        if (many > game.duel.itself.waits || place < 0 || place >= many) {
            return NONE;
        }
        tour.plan(game.duel.settings, game.duel.itself, many);
        return tour.requestAt(game.duel.settings, place);
    }

    /** Returns the rule that the arm itself would take in the next round. */
    public int nextRule() {
        return game.duel.comingRule();
    }

    /** Returns a request that the arm itself served, 0 for the latest one. */
    public int served(int index, int what) throws IllegalArgumentException {
        if (index < 0) {
            throw new IllegalArgumentException("a negative index");
        }
        requireWithin(what, 0, Records.SERVED_NUMBERS - 1);
        return game.records.servedAt(index, what);
    }

    // ---- costs and regret

    /** Returns how many rounds have been made. */
    public int rounds() {
        return game.duel.made;
    }

    /** Returns a number of the regret. */
    public int regret(int what) throws IllegalArgumentException {
        Duel duel = game.duel;
        switch (what) {
            case 0: return duel.regretNow();
            case 1: return duel.settings.boundBehind(duel.made);
            case 2: return game.records.breaches;
            case 3: return game.records.greatestRegret;
            case 4: return game.records.firstBreach;
            default: throw new IllegalArgumentException("no such number of the regret");
        }
    }

    /** Returns the best fixed rule so far. */
    public int best() {
        return game.duel.cheapestRule();
    }

    /** Returns what the arm itself has cost less what the own arm of a rule has cost. */
    public int regretTo(int rule) throws IndexOutOfBoundsException {
        requireRule(rule);
        return game.duel.itself.paid - game.duel.own[rule].paid;
    }

    /** Returns what another rule would have cost in the rounds in which the arm itself took a rule. */
    public int swapCost(int rule, int other) throws IndexOutOfBoundsException {
        requireRule(rule);
        requireRule(other);
        return game.records.swaps[rule][other];
    }

    /** Returns how much the arm itself would have saved by the best exchange of each rule. */
    public int swapRegret() {
        int sum = 0;
        for (int rule = 0; rule < game.duel.settings.ruleCount; rule++) {
            int[] row = game.records.swaps[rule];
            sum += row[rule] - row[game.records.cheapestSwap(rule)];
        }
        return sum;
    }

    /** Returns the rule with the least swap cost for a rule. */
    public int bestSwap(int rule) throws IndexOutOfBoundsException {
        requireRule(rule);
        return game.records.cheapestSwap(rule);
    }

    /** Returns a number of the rival. */
    public int rival(int what) throws IllegalArgumentException {
        requireWithin(what, 0, 5);
        Duel duel = game.duel;
        if (!duel.settings.hasRival()) {
            return NO_VALUE;
        }
        switch (what) {
            case 0: return duel.settings.rivalKind;
            case 1: return duel.rivalArm.cylinder;
            case 2: return duel.rivalArm.paid;
            case 3: return duel.rivalArm.paid - duel.own[duel.cheapestRule()].paid;
            case 4: return game.records.rivalWins;
            default: return duel.rivalTaken;
        }
    }

    /** Returns what an arm cost in a round. */
    public int cost(int arm, int round) throws IndexOutOfBoundsException {
        requireArm(arm);
        return game.records.hasRounds(round, 1) ? game.records.paidIn(arm, round, round + 1) : NO_VALUE;
    }

    /** Returns the rule that the arm itself took in a round. */
    public int taken(int round) {
        return game.records.hasRounds(round, 1) ? game.records.takenIn[round] : NONE;
    }

    /** Returns a number of the best two rules, one for the first rounds, one for the others. */
    public int bestPair(int what) throws IllegalArgumentException {
        requireWithin(what, 0, 3);
        Records records = game.records;
        int many = records.bestSplit();
        switch (what) {
            case 0: return records.splitCost(many);
            case 1: return records.cheapestIn(0, many);
            case 2: return records.cheapestIn(many, records.made);
            default: return many;
        }
    }

    /** Returns in how many rounds the own arm of a rule cost less than that of another one. */
    public int cheaper(int rule, int other) throws IndexOutOfBoundsException {
        requireRule(rule);
        requireRule(other);
        Records records = game.records;
        int many = 0;
        for (int round = 0; round < records.made; round++) {
            if (records.paidIn(rule, round, round + 1) < records.paidIn(other, round, round + 1)) {
                many++;
            }
        }
        return many;
    }

    /** Returns behind how many rounds a rule was the best fixed one. */
    public int leads(int rule) throws IndexOutOfBoundsException {
        requireRule(rule);
        return game.records.timesBest[rule];
    }

    /** Returns how often the arm itself took another rule than in the round before. */
    public int switches() {
        Records records = game.records;
        int many = 0;
        for (int round = 1; round < records.made; round++) {
            if (records.takenIn[round] != records.takenIn[round - 1]) {
                many++;
            }
        }
        return many;
    }

    /** Returns the greatest number of rounds, one behind the other, in which a rule was taken. */
    public int streak(int rule) throws IndexOutOfBoundsException {
        requireRule(rule);
        Records records = game.records;
        int greatest = 0;
        int current = 0;
        for (int round = 0; round < records.made; round++) {
            current = records.takenIn[round] == rule ? current + 1 : 0;
            greatest = Math.max(greatest, current);
        }
        return greatest;
    }

    /** Finds the rounds, one behind the other, in which the own arm of a rule cost most. */
    public int dearest(int rule, int length) throws IndexOutOfBoundsException, IllegalArgumentException {
        requireRule(rule);
        requireWithin(length, 1, MOST_ROUNDS);
        Records records = game.records;
        int found = NONE;
        int most = 0;
        for (int from = 0; from + length <= records.made; from++) {
            int paid = records.paidIn(rule, from, from + length);
            if (found == NONE || paid > most) {
                found = from;
                most = paid;
            }
        }
        return found;
    }

    /** Returns the regret of some rounds, one behind the other. */
    public int windowRegret(int from, int length) throws IllegalArgumentException {
        requireWindow(from, length);
        return game.records.hasRounds(from, length) ? game.records.regretOver(from, from + length) : NO_VALUE;
    }

    /** Returns the rule whose own arm cost least in some rounds. */
    public int windowBest(int from, int length) throws IllegalArgumentException {
        requireWindow(from, length);
        return game.records.hasRounds(from, length) ? game.records.cheapestIn(from, from + length) : NONE;
    }

    /** Finds the rounds, as many as told, with the greatest regret. */
    public int worstWindow(int length) throws IllegalArgumentException {
        requireWithin(length, 1, MOST_ROUNDS);
        Records records = game.records;
        int found = NONE;
        int most = 0;
        for (int from = 0; from + length <= records.made; from++) {
            int regret = records.regretOver(from, from + length);
            if (found == NONE || regret > most) {
                found = from;
                most = regret;
            }
        }
        return found;
    }

    /** Returns what an arm has cost for each round. */
    public double meanCost(int arm) throws IndexOutOfBoundsException {
        requireArm(arm);
        int made = game.duel.made;
        return made == 0 ? 0.0 : (double) game.duel.armOf(arm).paid / (double) made;
    }

    /** Returns which part of all weights a rule has. */
    public float share(int rule) throws IndexOutOfBoundsException {
        requireRule(rule);
        int sum = game.duel.weightSum();
        return sum == 0 ? 0.0f : (float) game.duel.weights[rule] / (float) sum;
    }

    // ---- running and predictions

    /** Makes rounds. */
    public int run(int rounds) throws IllegalArgumentException {
        requireWithin(rounds, 1, Math.min(MOST_AT_ONCE, MOST_ROUNDS - game.duel.made));
        for (int i = 0; i < rounds; i++) {
            game.makeRound();
        }
        return game.duel.made;
    }

    /** Makes rounds until one is a breach. */
    public int runToBreach(int most) throws IllegalArgumentException {
        requireWithin(most, 1, MOST_AT_ONCE);
        int left = Math.min(most, MOST_ROUNDS - game.duel.made);
        for (int i = 0; i < left; i++) {
            game.makeRound();
            if (game.duel.isBreach()) {
                return i + 1;
            }
        }
        return NONE;
    }

    /** Predicts the regret behind the next round with one more request, and none of the foe. */
    public int hurtOf(int cylinder) throws IllegalArgumentException {
        requireCylinder(cylinder);
        if (game.duel.isFull()) {
            return NO_VALUE;
        }
        game.duel.foreseeHurts(game.duel.comingRule());
        return game.duel.hurts[cylinder];
    }

    /** Returns the cylinder for which the foe hurt would add a request now. */
    public int worst() {
        if (game.duel.isFull()) {
            return NONE;
        }
        game.duel.foreseeHurts(game.duel.comingRule());
        return game.duel.mostHurtful();
    }

    /** Predicts the regret behind some rounds. */
    public int regretIn(int rounds) throws IllegalArgumentException {
        requireWithin(rounds, 1, MOST_AT_ONCE);
        trial.copyFrom(game.duel);
        trial.letPass(rounds);
        return trial.regretNow();
    }

    /** Predicts by how much the cost of an arm will become greater in some rounds. */
    public int costIn(int arm, int rounds) throws IndexOutOfBoundsException, IllegalArgumentException {
        requireArm(arm);
        requireWithin(rounds, 1, MOST_AT_ONCE);
        trial.copyFrom(game.duel);
        trial.letPass(rounds);
        return trial.armOf(arm).paid - game.duel.armOf(arm).paid;
    }

    /** Predicts behind how many rounds one will be a breach. */
    public int breachIn() {
        if (game.duel.settings.base == NONE) {
            return NONE;
        }
        trial.copyFrom(game.duel);
        for (int passed = 1; passed <= MOST_AT_ONCE; passed++) {
            trial.letPass(1);
            if (trial.isBreach()) {
                return passed;
            }
        }
        return NONE;
    }

    /** Predicts the regret behind some rounds if the arm itself kept a rule. */
    public int regretKeeping(int rule, int rounds)
            throws IndexOutOfBoundsException, IllegalArgumentException {
        requireRule(rule);
        requireWithin(rounds, 1, MOST_AT_ONCE);
        trial.copyFrom(game.duel);
        trial.settings.takeMaster(KEEP, rule);
        trial.letPass(rounds);
        return trial.regretNow();
    }

    /** Predicts the regret behind some rounds with another foe. */
    public int regretAgainst(int kind, int rounds) throws IllegalArgumentException {
        requireWithin(kind, NO_FOE, HURT);
        requireWithin(rounds, 1, MOST_AT_ONCE);
        trial.copyFrom(game.duel);
        trial.settings.foe = kind;
        trial.letPass(rounds);
        return trial.regretNow();
    }

    /** Predicts by how much more than the rival the arm itself will have cost behind some rounds. */
    public int rivalIn(int rounds) throws IllegalArgumentException {
        requireWithin(rounds, 1, MOST_AT_ONCE);
        if (!game.duel.settings.hasRival()) {
            return NO_VALUE;
        }
        trial.copyFrom(game.duel);
        trial.letPass(rounds);
        return trial.itself.paid - trial.rivalArm.paid;
    }

    /** Finds the least budget, set now, by which the foe hurt would reach a regret in 20 rounds. */
    public int budgetFor(int regret) {
        for (int budget = 0; budget <= BUDGET_ROUNDS; budget++) {
            trial.copyFrom(game.duel);
            trial.settings.foe = HURT;
            trial.takeBudget(budget);
            trial.letPass(BUDGET_ROUNDS);
            if (trial.regretNow() >= regret) {
                return budget;
            }
        }
        return NONE;
    }

    /** Copies everything to a snapshot. */
    public int saveSnapshot(int slot) throws IllegalArgumentException {
        requireWithin(slot, 0, SNAPSHOTS - 1);
        if (snapshots[slot] == null) {
            snapshots[slot] = new Game();
        }
        snapshots[slot].copyFrom(game);
        return game.duel.made;
    }

    /** Replaces everything by a copy of a snapshot. */
    public int restoreSnapshot(int slot) throws IllegalArgumentException {
        requireWithin(slot, 0, SNAPSHOTS - 1);
        if (snapshots[slot] == null) {
            return NONE;
        }
        game.copyFrom(snapshots[slot]);
        return game.duel.made;
    }

    private void requireRule(int rule) throws IndexOutOfBoundsException {
        if (!game.duel.settings.hasRule(rule)) {
            throw new IndexOutOfBoundsException("no such rule");
        }
    }

    private void requireArm(int arm) throws IndexOutOfBoundsException {
        if (arm != NONE && !game.duel.settings.hasRule(arm)) {
            throw new IndexOutOfBoundsException("no such arm");
        }
    }

    private void requireCylinder(int cylinder) throws IllegalArgumentException {
        requireWithin(cylinder, 0, game.duel.settings.cylinders - 1);
    }

    private void requireWindow(int from, int length) throws IllegalArgumentException {
        if (from < 0) {
            throw new IllegalArgumentException("a negative round");
        }
        requireWithin(length, 1, MOST_ROUNDS);
    }

    private static void requireWithin(int value, int least, int most) throws IllegalArgumentException {
        if (value < least || value > most) {
            throw new IllegalArgumentException("out of range");
        }
    }

    /** What a description tells, and what the calls of the part "changes" change of it. */
    private static final class Settings {
        int cylinders;
        int start;
        int seek;
        int per;
        int ruleCount;
        final int[] kinds = new int[MOST_RULES];
        final int[] widths = new int[MOST_RULES];
        int masterKind;
        int masterRule;
        int eta;
        int firstSeed;
        int foe;
        int askCount;
        final int[] asks = new int[MOST_ASKS];
        int rivalKind;
        int rivalRule;
        int budget;
        int base;
        int root;

        void becomeDefault() {
            cylinders = 10;
            start = 0;
            seek = 0;
            per = 1;
            ruleCount = 0;
            masterKind = KEEP;
            masterRule = 0;
            eta = 100;
            firstSeed = 1;
            foe = NO_FOE;
            askCount = 0;
            rivalKind = NONE;
            rivalRule = NONE;
            budget = NONE;
            base = NONE;
            root = NONE;
        }

        void completeRules() {
            if (ruleCount == 0) {
                putRule(FCFS, NONE);
            }
        }

        void copyFrom(Settings other) {
            cylinders = other.cylinders;
            start = other.start;
            seek = other.seek;
            per = other.per;
            ruleCount = other.ruleCount;
            System.arraycopy(other.kinds, 0, kinds, 0, kinds.length);
            System.arraycopy(other.widths, 0, widths, 0, widths.length);
            masterKind = other.masterKind;
            masterRule = other.masterRule;
            eta = other.eta;
            firstSeed = other.firstSeed;
            foe = other.foe;
            askCount = other.askCount;
            System.arraycopy(other.asks, 0, asks, 0, asks.length);
            rivalKind = other.rivalKind;
            rivalRule = other.rivalRule;
            budget = other.budget;
            base = other.base;
            root = other.root;
        }

        void putRule(int kind, int width) {
            if (ruleCount < MOST_RULES) {
                kinds[ruleCount] = kind;
                widths[ruleCount] = width;
                ruleCount++;
            }
        }

        void putAsk(int cylinder) {
            if (askCount < MOST_ASKS) {
                asks[askCount] = cylinder;
                askCount++;
            }
        }

        void takeMaster(int kind, int rule) {
            masterKind = kind;
            masterRule = kind == KEEP ? rule : NONE;
        }

        boolean hasRival() {
            return rivalKind != NONE;
        }

        boolean hasRule(int rule) {
            return rule >= 0 && rule < ruleCount;
        }

        int kindOf(int rule) {
            return hasRule(rule) ? kinds[rule] : FCFS;
        }

        int widthOf(int rule) {
            return hasRule(rule) ? widths[rule] : NONE;
        }

        int askAt(int index) {
            return index >= 0 && index < askCount ? asks[index] : NONE;
        }

        int priceOf(int from, int to) {
            return from == to ? 0 : seek + per * (from < to ? to - from : from - to);
        }

        int boundBehind(int rounds) {
            if (base == NONE) {
                return NO_VALUE;
            }
            int square = 0;
            while (square < MOST_ROUNDS && (square + 1) * (square + 1) <= rounds) {
                square++;
            }
            return base + root * square;
        }
    }

    /** Reads a text as a description; behind an error the draft is of no use. */
    private static final class Reader {
        static final String STATEMENTS = "drive cost rule master mix foe ask rival budget bound";
        static final String RULES = "fcfs near scan wrap band";
        static final String MASTERS = "draw lead keep";
        static final String FOES = "none far mirror ends list hurt";
        static final int DRIVE = 0;
        static final int CANNOT_STAND = 1;
        static final int OUT_OF_RANGE = 2;
        static final int TOO_MANY = 3;
        static final int BEYOND_ALL_RANGES = 1000000;

        final Settings draft = new Settings();
        private byte[] text = new byte[0];
        private int length;
        private int at;
        private int tokenAt;
        int error;
        int errorAt;

        void readText(byte[] bytes, int many) {
            text = bytes;
            length = Math.min(many, bytes.length);
            at = 0;
            tokenAt = 0;
            error = 0;
            errorAt = 0;
            draft.becomeDefault();
            readDrive();
            for (int i = 0; i < MOST_BYTES && hasMore(); i++) {
                readStatement();
            }
            draft.completeRules();
        }

        /** Goes behind a semicolon; the text may end ahead of it. */
        private boolean hasMore() {
            skipSpaces();
            if (error != 0 || at >= length) {
                return false;
            }
            if (text[at] != ';') {
                fail(CANNOT_STAND, at);
                return false;
            }
            at++;
            return true;
        }

        private void readDrive() {
            if (readWord(STATEMENTS) != DRIVE) {
                fail(CANNOT_STAND, tokenAt);
            }
            draft.cylinders = readNumber(2, MOST_CYLINDERS);
            draft.start = readNumber(0, draft.cylinders - 1);
        }

        private void readStatement() {
            int word = readWord(STATEMENTS);
            switch (word) {
                case 1:
                    draft.seek = readNumber(0, 99);
                    draft.per = readNumber(1, 99);
                    break;
                case 2:
                    readRule();
                    break;
                case 3:
                    readMaster();
                    break;
                case 4:
                    draft.eta = readNumber(1, MOST_ETA);
                    draft.firstSeed = readNumber(0, 32767);
                    break;
                case 5:
                    draft.foe = readWord(FOES);
                    break;
                case 6:
                    readAsk();
                    break;
                case 7:
                    readRival();
                    break;
                case 8:
                    draft.budget = readNumber(0, MOST_BUDGET);
                    break;
                case 9:
                    draft.base = readNumber(0, MOST_BASE);
                    draft.root = readNumber(0, MOST_ROOT);
                    break;
                default:
                    fail(CANNOT_STAND, tokenAt);
                    break;
            }
        }

        private void readRule() {
            if (draft.ruleCount >= MOST_RULES) {
                fail(TOO_MANY, tokenAt);
            }
            int kind = readWord(RULES);
            int width = kind == BAND ? readNumber(0, 99) : NONE;
            if (error == 0) {
                draft.putRule(kind, width);
            }
        }

        private void readAsk() {
            if (draft.askCount >= MOST_ASKS) {
                fail(TOO_MANY, tokenAt);
            }
            int cylinder = readNumber(0, draft.cylinders - 1);
            if (error == 0) {
                draft.putAsk(cylinder);
            }
        }

        private void readMaster() {
            int kind = readWord(MASTERS);
            int kept = kind == KEEP ? readNumber(0, draft.ruleCount - 1) : NONE;
            draft.takeMaster(kind, kept);
        }

        private void readRival() {
            int kind = readWord(MASTERS);
            draft.rivalRule = kind == KEEP ? readNumber(0, draft.ruleCount - 1) : NONE;
            draft.rivalKind = kind;
        }

        /** Returns the place of the next word in a list; it is an error if it is not there. */
        private int readWord(String words) {
            if (error != 0) {
                return NONE;
            }
            skipSpaces();
            tokenAt = at;
            while (at < length && text[at] >= 'a' && text[at] <= 'z') {
                at++;
            }
            int place = placeIn(words);
            if (place == NONE) {
                fail(CANNOT_STAND, tokenAt);
            }
            return place;
        }

        private int placeIn(String words) {
            int place = 0;
            int from = 0;
            for (int i = 0; i <= words.length(); i++) {
                if (i == words.length() || words.charAt(i) == ' ') {
                    if (isToken(words, from, i)) {
                        return place;
                    }
                    place++;
                    from = i + 1;
                }
            }
            return NONE;
        }

        /** Tells whether the latest token is the part of a list from one place up to another. */
        private boolean isToken(String words, int from, int to) {
            if (from < 0 || to > words.length() || to - from != at - tokenAt) {
                return false;
            }
            for (int i = 0; i < to - from; i++) {
                if (words.charAt(from + i) != text[tokenAt + i]) {
                    return false;
                }
            }
            return true;
        }

        private int readNumber(int least, int most) {
            if (error != 0) {
                return 0;
            }
            skipSpaces();
            tokenAt = at;
            int value = 0;
            while (at < length && text[at] >= '0' && text[at] <= '9') {
                value = Math.min(10 * value + (text[at] - '0'), BEYOND_ALL_RANGES);
                at++;
            }
            if (at == tokenAt) {
                fail(CANNOT_STAND, at);
            } else if (value < least || value > most) {
                fail(OUT_OF_RANGE, tokenAt);
            }
            return value;
        }

        private void skipSpaces() {
            while (at < length && text[at] == ' ') {
                at++;
            }
        }

        private void fail(int number, int position) {
            if (error == 0) {
                error = number;
                errorAt = position;
            }
        }
    }

    /** An arm with the requests that wait for it, the oldest one first. */
    private static final class Arm {
        /** Lies behind all ranks of requests that a rule serves without turning round. */
        static final int BEHIND = 1000;
        /** Lies behind all ranks. */
        static final int LAST = 10000;

        int cylinder;
        boolean up;
        int waits;
        final int[] wanted = new int[MOST_WAITING];
        final int[] cameIn = new int[MOST_WAITING];
        int paid;
        int gone;
        int longestWait;
        int servedCount;
        int roundCost;
        int roundServed;
        int roundCameIn;

        void begin(int start) {
            cylinder = start;
            up = true;
            waits = 0;
            paid = 0;
            gone = 0;
            longestWait = 0;
            servedCount = 0;
            roundCost = 0;
            roundServed = NONE;
            roundCameIn = NONE;
        }

        void copyFrom(Arm other) {
            cylinder = other.cylinder;
            up = other.up;
            waits = other.waits;
            System.arraycopy(other.wanted, 0, wanted, 0, wanted.length);
            System.arraycopy(other.cameIn, 0, cameIn, 0, cameIn.length);
            paid = other.paid;
            gone = other.gone;
            longestWait = other.longestWait;
            servedCount = other.servedCount;
            roundCost = other.roundCost;
            roundServed = other.roundServed;
            roundCameIn = other.roundCameIn;
        }

        void receive(int asked, int round) {
            if (waits < MOST_WAITING) {
                wanted[waits] = asked;
                cameIn[waits] = round;
                waits++;
            }
        }

        /** Returns how late a rule serves a request for a cylinder; of equal ranks the oldest is first. */
        int rankOf(int kind, int width, int asked) {
            int ahead = asked - cylinder;
            int distance = ahead < 0 ? -ahead : ahead;
            switch (kind) {
                case NEAR: return 2 * distance + (ahead > 0 ? 1 : 0);
                case SCAN: return distance + ((up ? ahead >= 0 : ahead <= 0) ? 0 : BEHIND);
                case WRAP: return ahead >= 0 ? ahead : BEHIND + asked;
                case BAND: return distance <= width ? 0 : BEHIND;
                default: return 0;
            }
        }

        /** Returns the index of the request that is served by a rule; NONE if none waits. */
        int choose(int kind, int width) {
            int chosen = NONE;
            int least = 0;
            for (int i = 0; i < waits; i++) {
                int rank = rankOf(kind, width, wanted[i]);
                if (chosen == NONE || rank < least) {
                    chosen = i;
                    least = rank;
                }
            }
            return chosen;
        }

        /** Returns what serving by a rule would cost from here. */
        int costBy(Settings settings, int rule) {
            int index = choose(settings.kindOf(rule), settings.widthOf(rule));
            return index == NONE ? 0 : settings.priceOf(cylinder, wanted[index]);
        }

        void serve(Settings settings, int rule, int round) {
            int kind = settings.kindOf(rule);
            int width = settings.widthOf(rule);
            int index = choose(kind, width);
            roundCost = 0;
            roundServed = NONE;
            roundCameIn = NONE;
            if (index == NONE) {
                return;
            }
            roundServed = wanted[index];
            roundCameIn = cameIn[index];
            if (kind == SCAN && rankOf(kind, width, roundServed) >= BEHIND) {
                up = !up;
            }
            roundCost = settings.priceOf(cylinder, roundServed);
            paid += roundCost;
            gone += Math.abs(roundServed - cylinder);
            longestWait = Math.max(longestWait, round - roundCameIn);
            servedCount++;
            cylinder = roundServed;
            remove(index);
        }

        private void remove(int index) {
            for (int i = index; i + 1 < waits; i++) {
                wanted[i] = wanted[i + 1];
                cameIn[i] = cameIn[i + 1];
            }
            waits--;
        }

        /** Fills in what the arm has cost behind a round with one more request, for each cylinder. */
        void foresee(Settings settings, int rule, int[] paidThen) {
            int kind = settings.kindOf(rule);
            int width = settings.widthOf(rule);
            int index = choose(kind, width);
            int rank = index == NONE ? LAST : rankOf(kind, width, wanted[index]);
            int price = index == NONE ? 0 : settings.priceOf(cylinder, wanted[index]);
            for (int asked = 0; asked < settings.cylinders && asked < paidThen.length; asked++) {
                // The one more is the youngest of all, so an equal rank does not suffice.
                boolean isServed = rankOf(kind, width, asked) < rank;
                paidThen[asked] = paid + (isServed ? settings.priceOf(cylinder, asked) : price);
            }
        }
    }

    /** All that decides how the next rounds go: enough for a prediction. */
    private static final class Duel {
        final Settings settings = new Settings();
        final Arm itself = new Arm();
        final Arm rivalArm = new Arm();
        final Arm[] own = new Arm[MOST_RULES];
        final int[] weights = new int[MOST_RULES];
        /** The regrets that foreseeHurts found, by cylinder; they are no part of the state. */
        final int[] hurts = new int[MOST_CYLINDERS];
        private final int[] foreseen = new int[MOST_CYLINDERS];
        int seed;
        int rivalSeed;
        int made;
        int latestAsk;
        int hurtsAsked;
        int ruleTaken;
        int rivalTaken;

        Duel() {
            for (int rule = 0; rule < own.length; rule++) {
                own[rule] = new Arm();
            }
        }

        void begin(Settings told) {
            settings.copyFrom(told);
            itself.begin(settings.start);
            rivalArm.begin(settings.start);
            for (int rule = 0; rule < own.length; rule++) {
                own[rule].begin(settings.start);
            }
            resetWeights();
            seed = settings.firstSeed;
            rivalSeed = settings.firstSeed;
            made = 0;
            latestAsk = NONE;
            hurtsAsked = 0;
            ruleTaken = NONE;
            rivalTaken = NONE;
        }

        void copyFrom(Duel other) {
            settings.copyFrom(other.settings);
            itself.copyFrom(other.itself);
            rivalArm.copyFrom(other.rivalArm);
            for (int rule = 0; rule < own.length; rule++) {
                own[rule].copyFrom(other.own[rule]);
            }
            System.arraycopy(other.weights, 0, weights, 0, weights.length);
            seed = other.seed;
            rivalSeed = other.rivalSeed;
            made = other.made;
            latestAsk = other.latestAsk;
            hurtsAsked = other.hurtsAsked;
            ruleTaken = other.ruleTaken;
            rivalTaken = other.rivalTaken;
        }

        void resetWeights() {
            for (int rule = 0; rule < weights.length; rule++) {
                weights[rule] = FIRST_WEIGHT;
            }
        }

        void takeBudget(int budget) {
            settings.budget = budget;
            hurtsAsked = 0;
        }

        /** Returns the own arm of a rule, or else the arm itself. */
        Arm armOf(int arm) {
            return settings.hasRule(arm) ? own[arm] : itself;
        }

        boolean isFull() {
            return itself.waits >= MOST_WAITING;
        }

        void addForAll(int asked) {
            itself.receive(asked, made);
            for (int rule = 0; rule < settings.ruleCount; rule++) {
                own[rule].receive(asked, made);
            }
            if (settings.hasRival()) {
                rivalArm.receive(asked, made);
            }
        }

        /** Lets rounds pass without a record of them. */
        void letPass(int rounds) {
            for (int i = 0; i < rounds; i++) {
                moveFoe();
                takeRules();
                serveAll();
            }
        }

        void moveFoe() {
            if (isFull()) {
                return;
            }
            int end = settings.cylinders - 1;
            switch (foeNow()) {
                case FAR:
                    addForAll(itself.cylinder >= end - itself.cylinder ? 0 : end);
                    break;
                case MIRROR:
                    addForAll(end - itself.cylinder);
                    break;
                case ENDS:
                    addForAll(made % 2 == 0 ? end : 0);
                    break;
                case LIST:
                    addNextAsk();
                    break;
                case HURT:
                    foreseeHurts(comingRule());
                    addForAll(mostHurtful());
                    hurtsAsked++;
                    break;
                default:
                    break;
            }
        }

        /** Returns the foe, who is list instead of hurt behind the end of the budget. */
        private int foeNow() {
            boolean isSpent = settings.budget != NONE && hurtsAsked >= settings.budget;
            return settings.foe == HURT && isSpent ? LIST : settings.foe;
        }

        private void addNextAsk() {
            if (settings.askCount > 0) {
                latestAsk = latestAsk + 1 < settings.askCount ? latestAsk + 1 : 0;
                addForAll(settings.askAt(latestAsk));
            }
        }

        /** Fills hurts with the regret behind a round, by a coming rule, with one more request. */
        void foreseeHurts(int coming) {
            for (int rule = 0; rule < settings.ruleCount; rule++) {
                own[rule].foresee(settings, rule, foreseen);
                for (int asked = 0; asked < settings.cylinders; asked++) {
                    hurts[asked] = rule == 0 ? foreseen[asked] : Math.min(hurts[asked], foreseen[asked]);
                }
            }
            itself.foresee(settings, coming, foreseen);
            for (int asked = 0; asked < settings.cylinders; asked++) {
                hurts[asked] = foreseen[asked] - hurts[asked];
            }
        }

        /** Returns the lowest cylinder with the greatest regret that was foreseen. */
        int mostHurtful() {
            int found = 0;
            for (int asked = 1; asked < settings.cylinders; asked++) {
                if (hurts[asked] > hurts[found]) {
                    found = asked;
                }
            }
            return found;
        }

        void takeRules() {
            if (settings.masterKind == DRAW) {
                seed = seedBehind(seed);
            }
            ruleTaken = ruleBy(settings.masterKind, settings.masterRule, seed);
            if (settings.rivalKind == DRAW) {
                rivalSeed = seedBehind(rivalSeed);
            }
            if (settings.hasRival()) {
                rivalTaken = ruleBy(settings.rivalKind, settings.rivalRule, rivalSeed);
            }
        }

        int comingRule() {
            return ruleBy(settings.masterKind, settings.masterRule, seedBehind(seed));
        }

        private static int seedBehind(int seed) {
            return (1103 * seed + 12345) % 32768;
        }

        private int ruleBy(int kind, int kept, int drawnSeed) {
            if (kind == DRAW) {
                return ruleDrawn(drawnSeed);
            }
            if (kind == LEAD) {
                return cheapestRule();
            }
            return settings.hasRule(kept) ? kept : 0;
        }

        private int ruleDrawn(int drawnSeed) {
            int sum = weightSum();
            int left = sum > 0 ? drawnSeed % sum : 0;
            for (int rule = 0; rule < settings.ruleCount; rule++) {
                if (left < weights[rule]) {
                    return rule;
                }
                left -= weights[rule];
            }
            return 0;
        }

        int weightSum() {
            int sum = 0;
            for (int rule = 0; rule < settings.ruleCount; rule++) {
                sum += weights[rule];
            }
            return sum;
        }

        int cheapestRule() {
            int found = 0;
            for (int rule = 1; rule < settings.ruleCount; rule++) {
                if (own[rule].paid < own[found].paid) {
                    found = rule;
                }
            }
            return found;
        }

        void serveAll() {
            itself.serve(settings, ruleTaken, made);
            for (int rule = 0; rule < settings.ruleCount; rule++) {
                own[rule].serve(settings, rule, made);
            }
            if (settings.hasRival()) {
                rivalArm.serve(settings, rivalTaken, made);
            }
            loseWeights();
            made++;
        }

        private void loseWeights() {
            long whole = 1000L * settings.priceOf(0, settings.cylinders - 1);
            if (whole <= 0) {
                return;
            }
            int greatest = 0;
            for (int rule = 0; rule < settings.ruleCount; rule++) {
                long lost = (long) weights[rule] * settings.eta * own[rule].roundCost / whole;
                weights[rule] = (int) Math.max(1, weights[rule] - lost);
                greatest = Math.max(greatest, weights[rule]);
            }
            for (int rule = 0; rule < settings.ruleCount && greatest < SMALL_WEIGHT; rule++) {
                weights[rule] *= 1000;
            }
        }

        int regretNow() {
            return itself.paid - own[cheapestRule()].paid;
        }

        boolean isBreach() {
            return settings.base != NONE && regretNow() > settings.boundBehind(made);
        }
    }

    /** What is told of the rounds that have been made. */
    private static final class Records {
        static final int SERVED_NUMBERS = 5;

        private int ruleCount;
        int made;
        /** What the arms had cost ahead of each round and behind the last one: row 0 is the arm itself. */
        private final int[][] paidBefore = new int[MOST_RULES + 1][MOST_ROUNDS + 1];
        final int[] takenIn = new int[MOST_ROUNDS];
        final int[] timesTaken = new int[MOST_RULES];
        final int[] paidByTaking = new int[MOST_RULES];
        final int[] timesBest = new int[MOST_RULES];
        final int[][] swaps = new int[MOST_RULES][MOST_RULES];
        private final int[][] latest = new int[MOST_SERVED_KEPT][SERVED_NUMBERS];
        private int servedCount;
        int breaches;
        int greatestRegret;
        int firstBreach;
        int rivalWins;

        void begin(int rules) {
            ruleCount = rules;
            made = 0;
            servedCount = 0;
            breaches = 0;
            greatestRegret = 0;
            firstBreach = NONE;
            rivalWins = 0;
            for (int rule = 0; rule < MOST_RULES; rule++) {
                timesTaken[rule] = 0;
                paidByTaking[rule] = 0;
                timesBest[rule] = 0;
                for (int other = 0; other < MOST_RULES; other++) {
                    swaps[rule][other] = 0;
                }
            }
        }

        void copyFrom(Records other) {
            ruleCount = other.ruleCount;
            made = other.made;
            servedCount = other.servedCount;
            breaches = other.breaches;
            greatestRegret = other.greatestRegret;
            firstBreach = other.firstBreach;
            rivalWins = other.rivalWins;
            for (int row = 0; row < paidBefore.length; row++) {
                System.arraycopy(other.paidBefore[row], 0, paidBefore[row], 0, paidBefore[row].length);
            }
            System.arraycopy(other.takenIn, 0, takenIn, 0, takenIn.length);
            System.arraycopy(other.timesTaken, 0, timesTaken, 0, timesTaken.length);
            System.arraycopy(other.paidByTaking, 0, paidByTaking, 0, paidByTaking.length);
            System.arraycopy(other.timesBest, 0, timesBest, 0, timesBest.length);
            for (int rule = 0; rule < swaps.length; rule++) {
                System.arraycopy(other.swaps[rule], 0, swaps[rule], 0, swaps[rule].length);
            }
            for (int place = 0; place < latest.length; place++) {
                System.arraycopy(other.latest[place], 0, latest[place], 0, latest[place].length);
            }
        }

        /** Notes what the rules would cost the arm itself: ahead of its serving. */
        void noteSwaps(Duel duel) {
            if (!duel.settings.hasRule(duel.ruleTaken)) {
                return;
            }
            for (int other = 0; other < ruleCount; other++) {
                swaps[duel.ruleTaken][other] += duel.itself.costBy(duel.settings, other);
            }
        }

        /** Notes a round that has just been made. */
        void noteRound(Duel duel) {
            int rule = duel.ruleTaken;
            if (made >= MOST_ROUNDS || !duel.settings.hasRule(rule)) {
                return;
            }
            takenIn[made] = rule;
            timesTaken[rule]++;
            paidByTaking[rule] += duel.itself.roundCost;
            timesBest[duel.cheapestRule()]++;
            if (duel.settings.hasRival() && duel.rivalArm.roundCost < duel.itself.roundCost) {
                rivalWins++;
            }
            noteRegret(duel);
            noteServed(duel.itself, rule);
            made++;
            for (int row = 0; row <= ruleCount; row++) {
                paidBefore[row][made] = duel.armOf(row - 1).paid;
            }
        }

        private void noteRegret(Duel duel) {
            int regret = duel.regretNow();
            if (made == 0 || regret > greatestRegret) {
                greatestRegret = regret;
            }
            if (duel.isBreach()) {
                firstBreach = breaches == 0 ? made : firstBreach;
                breaches++;
            }
        }

        private void noteServed(Arm itself, int rule) {
            if (itself.roundServed == NONE) {
                return;
            }
            int[] row = latest[servedCount % MOST_SERVED_KEPT];
            row[0] = made;
            row[1] = itself.roundServed;
            row[2] = itself.roundCameIn;
            row[3] = itself.roundCost;
            row[4] = rule;
            servedCount++;
        }

        int servedAt(int index, int what) {
            if (index < 0 || index >= servedCount || index >= MOST_SERVED_KEPT
                    || what < 0 || what >= SERVED_NUMBERS) {
                return NONE;
            }
            return latest[(servedCount - 1 - index) % MOST_SERVED_KEPT][what];
        }

        boolean hasRounds(int from, int many) {
            return from >= 0 && many >= 0 && many <= made && from <= made - many;
        }

        /** Returns what an arm cost in the rounds from one up to, but not with, another one. */
        int paidIn(int arm, int from, int to) {
            int row = arm + 1;
            if (row < 0 || row > ruleCount || from < 0 || to > made || from > to) {
                return 0;
            }
            return paidBefore[row][to] - paidBefore[row][from];
        }

        int cheapestIn(int from, int to) {
            int found = 0;
            for (int rule = 1; rule < ruleCount; rule++) {
                if (paidIn(rule, from, to) < paidIn(found, from, to)) {
                    found = rule;
                }
            }
            return found;
        }

        int regretOver(int from, int to) {
            return paidIn(NONE, from, to) - paidIn(cheapestIn(from, to), from, to);
        }

        /** Returns the least cost of two rules, one for so many of the first rounds, one for the others. */
        int splitCost(int many) {
            return paidIn(cheapestIn(0, many), 0, many)
                    + paidIn(cheapestIn(many, made), many, made);
        }

        int bestSplit() {
            int found = 0;
            int least = splitCost(0);
            for (int many = 1; many <= made; many++) {
                int sum = splitCost(many);
                if (sum < least) {
                    found = many;
                    least = sum;
                }
            }
            return found;
        }

        int cheapestSwap(int rule) {
            int found = 0;
            for (int other = 1; other < ruleCount; other++) {
                if (swaps[rule][other] < swaps[rule][found]) {
                    found = other;
                }
            }
            return found;
        }
    }

    /** A duel and the records of it: what a snapshot contains. */
    private static final class Game {
        final Duel duel = new Duel();
        final Records records = new Records();

        void begin(Settings told) {
            duel.begin(told);
            records.begin(told.ruleCount);
        }

        void copyFrom(Game other) {
            duel.copyFrom(other.duel);
            records.copyFrom(other.records);
        }

        void makeRound() {
            duel.moveFoe();
            duel.takeRules();
            records.noteSwaps(duel);
            duel.serveAll();
            records.noteRound(duel);
        }
    }

    /** Finds the least cost of serving some requests in any order. */
    private static final class Tour {
        /** Where a tour can stand: at each of its requests, or behind them where the arm stands. */
        private static final int PLACES = MOST_IN_TOUR + 1;

        private int many;
        private final int[] places = new int[PLACES];
        /** The least cost of the requests that are left, by the set of those served and by the place. */
        private final int[] restCost = new int[(1 << MOST_IN_TOUR) * PLACES];

        void plan(Settings settings, Arm arm, int oldest) {
            many = Math.max(0, Math.min(oldest, Math.min(arm.waits, MOST_IN_TOUR)));
            for (int i = 0; i < many; i++) {
                places[i] = arm.wanted[i];
            }
            places[many] = arm.cylinder;
            int all = (1 << many) - 1;
            for (int done = all; done >= 0; done--) {
                for (int at = 0; at <= many; at++) {
                    int next = nextOf(settings, done, at);
                    restCost[done * PLACES + at] = next == NONE ? 0 : costOver(settings, done, at, next);
                }
            }
        }

        int leastCost() {
            return restCost[many];
        }

        /** Returns the request at a place of the first of the best orders. */
        int requestAt(Settings settings, int place) {
            int done = 0;
            int at = many;
            for (int i = 0; i <= place && i < many; i++) {
                int next = nextOf(settings, done, at);
                if (next == NONE) {
                    return NONE;
                }
                done |= 1 << next;
                at = next;
            }
            return at;
        }

        /** Returns the lowest request that is best to be served next; NONE if all are served. */
        private int nextOf(Settings settings, int done, int at) {
            int found = NONE;
            int least = 0;
            for (int next = 0; next < many; next++) {
                if ((done & (1 << next)) == 0) {
                    int sum = costOver(settings, done, at, next);
                    if (found == NONE || sum < least) {
                        found = next;
                        least = sum;
                    }
                }
            }
            return found;
        }

        private int costOver(Settings settings, int done, int at, int next) {
            return settings.priceOf(places[at], places[next]) + restCost[(done | (1 << next)) * PLACES + next];
        }
    }
}
