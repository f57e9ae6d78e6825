public final class VoteWatch {
    private static final int VALIDATORS = 8;
    private static final int EPOCHS = 32;
    private static final int NUMBERS_PER_EPOCH = 4;
    private static final int BRANCHES = 3;
    private static final int CHECKPOINT_NUMBERS = EPOCHS * NUMBERS_PER_EPOCH;
    private static final int MOST_VOTES = 64;
    private static final int FIRST_STAKE = 1;
    private static final int MOST_STAKE = 100;

    private static final int WRONG_INPUT = -1;
    private static final int NOT_TAKEN = -2;

    private static final int DOUBLE = 1;
    private static final int SURROUNDS = 2;
    private static final int SURROUNDED = 4;

    private final int[] stakes = new int[VALIDATORS];
    private final boolean[] offenders = new boolean[VALIDATORS];

    // The held votes are the first heldVotes places of these three.
    private final int[] voters = new int[MOST_VOTES];
    private final int[] sources = new int[MOST_VOTES];
    private final int[] targets = new int[MOST_VOTES];
    private int heldVotes = 0;

    // Filled anew by markJustified before each reading: a later stake can
    // take a justification back, so it can't be kept from call to call.
    private final boolean[] marks = new boolean[CHECKPOINT_NUMBERS];

    public VoteWatch() {
        for (int v = 0; v < VALIDATORS; v++) {
            stakes[v] = FIRST_STAKE;
        }
    }

    public int stake(int validator, int stake) {
        if (!isValidator(validator)) {
            return WRONG_INPUT;
        }
        int before = stakes[validator];
        stakes[validator] = withinStakes(stake);
        return before;
    }

    public int vote(int validator, int source, int target) {
        if (!isValidator(validator) || !isLink(source, target)) {
            return WRONG_INPUT;
        }
        if (heldVotes >= MOST_VOTES || isHeld(validator, source, target)) {
            return NOT_TAKEN;
        }
        int offences = offencesOf(validator, source, target);
        // Votes are never given up, so an offender stays one, and every
        // offending pair is met when the later of its two votes comes.
        if (offences != 0) {
            offenders[validator] = true;
        }
        voters[heldVotes] = validator;
        sources[heldVotes] = source;
        targets[heldVotes] = target;
        heldVotes++;
        return offences;
    }

    public int offender(int validator) {
        if (!isValidator(validator)) {
            return WRONG_INPUT;
        }
        return offenders[validator] ? 1 : 0;
    }

    public int offended() {
        int sum = 0;
        for (int v = 0; v < VALIDATORS; v++) {
            if (offenders[v]) {
                sum += stakes[v];
            }
        }
        return sum;
    }

    public int justified(int checkpoint) {
        if (!isCheckpoint(checkpoint)) {
            return WRONG_INPUT;
        }
        markJustified();
        return marks[checkpoint] ? 1 : 0;
    }

    public int isFinal(int checkpoint) {
        if (!isCheckpoint(checkpoint)) {
            return WRONG_INPUT;
        }
        markJustified();
        return (marks[checkpoint] && hasSupportedNext(checkpoint)) ? 1 : 0;
    }

    public int highest() {
        markJustified();
        int greatest = 0;
        for (int c = 0; c < CHECKPOINT_NUMBERS; c++) {
            if (marks[c]) {
                greatest = c;
            }
        }
        return greatest;
    }

    public int justifiedIn(int epoch) {
        if (epoch < 0 || epoch >= EPOCHS) {
            return WRONG_INPUT;
        }
        markJustified();
        int count = 0;
        for (int branch = 0; branch < BRANCHES; branch++) {
            if (marks[epoch * NUMBERS_PER_EPOCH + branch]) {
                count++;
            }
        }
        return count;
    }

    public int support(int source, int target) {
        return stakeBehind(source, target);
    }

    public int votes(int validator) {
        if (!isValidator(validator)) {
            return WRONG_INPUT;
        }
        int count = 0;
        for (int i = 0; i < heldVotes; i++) {
            if (voters[i] == validator) {
                count++;
            }
        }
        return count;
    }

    private static boolean isValidator(int validator) {
        return validator >= 0 && validator < VALIDATORS;
    }

    private static boolean isCheckpoint(int number) {
        return number >= 0 && number < CHECKPOINT_NUMBERS
            && number % NUMBERS_PER_EPOCH < BRANCHES;
    }

    private static boolean isLink(int source, int target) {
        return isCheckpoint(source) && isCheckpoint(target)
            && epochOf(target) > epochOf(source);
    }

    private static int epochOf(int checkpoint) {
        return checkpoint / NUMBERS_PER_EPOCH;
    }

    private static int withinStakes(int stake) {
        if (stake < 0) {
            return 0;
        }
        return stake > MOST_STAKE ? MOST_STAKE : stake;
    }

    private boolean isHeld(int validator, int source, int target) {
        for (int i = 0; i < heldVotes; i++) {
            if (voters[i] == validator && sources[i] == source && targets[i] == target) {
                return true;
            }
        }
        return false;
    }

    private int offencesOf(int validator, int source, int target) {
        int offences = 0;
        for (int i = 0; i < heldVotes; i++) {
            if (voters[i] == validator) {
                offences |= offencesAgainst(i, source, target);
            }
        }
        return offences;
    }

    private int offencesAgainst(int held, int source, int target) {
        int sourceStep = epochOf(source) - epochOf(sources[held]);
        int targetStep = epochOf(target) - epochOf(targets[held]);
        if (targetStep == 0) {
            return DOUBLE;
        }
        if (sourceStep < 0 && targetStep > 0) {
            return SURROUNDS;
        }
        if (sourceStep > 0 && targetStep < 0) {
            return SURROUNDED;
        }
        return 0;
    }

    // No vote is held twice, so no validator is counted twice here; and held
    // votes name checkpoints alone, so any other number finds no stake.
    private int stakeBehind(int source, int target) {
        int sum = 0;
        for (int i = 0; i < heldVotes; i++) {
            if (sources[i] == source && targets[i] == target) {
                sum += stakes[voters[i]];
            }
        }
        return sum;
    }

    private int totalStake() {
        int sum = 0;
        for (int v = 0; v < VALIDATORS; v++) {
            sum += stakes[v];
        }
        return sum;
    }

    private boolean isSupported(int source, int target) {
        return 3 * stakeBehind(source, target) > 2 * totalStake();
    }

    // A vote's source has a smaller number than its target, so going up by
    // number settles every source before it is asked for.
    private void markJustified() {
        for (int c = 0; c < CHECKPOINT_NUMBERS; c++) {
            marks[c] = c == 0 || hasSupportedSource(c);
        }
    }

    private boolean hasSupportedSource(int target) {
        for (int i = 0; i < heldVotes; i++) {
            if (targets[i] == target && marks[sources[i]] && isSupported(sources[i], target)) {
                return true;
            }
        }
        return false;
    }

    private boolean hasSupportedNext(int source) {
        int next = epochOf(source) + 1;
        for (int i = 0; i < heldVotes; i++) {
            if (sources[i] == source && epochOf(targets[i]) == next
                && isSupported(source, targets[i])) {
                return true;
            }
        }
        return false;
    }
}
