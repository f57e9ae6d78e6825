// For each promise of the document: ordinary inputs, its edges, wrong inputs.
public final class PromiseTest {
    private static final int[] NOT_CHECKPOINTS = {
        -1, -4, 3, 7, 63, 123, 127, 128, 129, 132, 1000,
        Integer.MIN_VALUE, Integer.MAX_VALUE, Integer.MIN_VALUE + 4
    };
    private static final int[] NOT_VALIDATORS = {
        -1, -8, 8, 9, 64, Integer.MIN_VALUE, Integer.MAX_VALUE
    };

    private static int wrong = 0;

    private static void due(String what, int got, int want) {
        if (got != want) {
            wrong++;
            System.out.println(what + " answered " + got + ", due is " + want);
        }
    }

    public static void main(String[] args) {
        newObject();
        stakeAnswersTheOneBefore();
        stakeIsKeptWithinBounds();
        stakeOfNoValidator();
        voteWithWrongInput();
        voteAtTheEdgesOfTheCheckpoints();
        voteHeldAlready();
        voteBeyondSixtyFour();
        voteNotTakenChangesNothing();
        doubleVotes();
        surroundingVotes();
        surroundedVotes();
        touchingVotesAreNoOffence();
        offencesAreSummedOnce();
        offencesAreOfOneValidator();
        offenders();
        offendedStakes();
        justifiedAtTwoThirds();
        justifiedThroughChain();
        justifiedFollowsTheStakes();
        justifiedNeedsOnePair();
        justifiedOfNoCheckpoint();
        nothingIsSupportedWithoutStake();
        finalNeedsTheNextEpoch();
        finalNeedsJustified();
        finalWithAnyBranch();
        finalInTheLastEpoch();
        finalOfNoCheckpoint();
        highestByNumber();
        justifiedInEpoch();
        supportSums();
        supportOfNoCheckpoint();
        votesCounted();
        objectsAreApart();
        System.out.println(wrong == 0 ? "all promises hold" : wrong + " answers are wrong");
        if (wrong != 0) {
            System.exit(1);
        }
    }

    private static void votesOf(VoteWatch x, int from, int to, int source, int target) {
        for (int v = from; v <= to; v++) {
            x.vote(v, source, target);
        }
    }

    // Promise 1

    private static void newObject() {
        VoteWatch x = new VoteWatch();
        for (int v = 0; v < 8; v++) {
            due("new: votes(" + v + ")", x.votes(v), 0);
            due("new: offender(" + v + ")", x.offender(v), 0);
        }
        due("new: offended", x.offended(), 0);
        due("new: highest", x.highest(), 0);
        for (int c = 0; c < 127; c++) {
            if (c % 4 != 3) {
                due("new: justified(" + c + ")", x.justified(c), c == 0 ? 1 : 0);
                due("new: isFinal(" + c + ")", x.isFinal(c), 0);
                due("new: support(0, " + c + ")", x.support(0, c), 0);
            }
        }
        for (int v = 0; v < 8; v++) {
            due("new: stake(" + v + ", 1)", x.stake(v, 1), 1);
        }
    }

    // Promise 2

    private static void stakeAnswersTheOneBefore() {
        VoteWatch x = new VoteWatch();
        for (int v = 0; v < 8; v++) {
            due("first stake of " + v, x.stake(v, 10 + v), 1);
        }
        for (int v = 0; v < 8; v++) {
            due("second stake of " + v, x.stake(v, 0), 10 + v);
            due("third stake of " + v, x.stake(v, 5), 0);
        }
    }

    private static void stakeIsKeptWithinBounds() {
        int[] given = {0, 1, 99, 100, 101, 200, Integer.MAX_VALUE, -1, -100, Integer.MIN_VALUE};
        int[] kept = {0, 1, 99, 100, 100, 100, 100, 0, 0, 0};
        VoteWatch x = new VoteWatch();
        for (int i = 0; i < given.length; i++) {
            x.stake(3, given[i]);
            due("stake after " + given[i], x.stake(3, 50), kept[i]);
        }
    }

    private static void stakeOfNoValidator() {
        VoteWatch x = new VoteWatch();
        for (int v : NOT_VALIDATORS) {
            due("stake(" + v + ", 9)", x.stake(v, 9), -1);
        }
        for (int v = 0; v < 8; v++) {
            due("stake untouched by wrong ones", x.stake(v, 1), 1);
        }
    }

    // Promise 3

    private static void voteWithWrongInput() {
        VoteWatch x = new VoteWatch();
        for (int v : NOT_VALIDATORS) {
            due("vote(" + v + ", 0, 4)", x.vote(v, 0, 4), -1);
        }
        for (int c : NOT_CHECKPOINTS) {
            due("vote(0, " + c + ", 126)", x.vote(0, c, 126), -1);
            due("vote(0, 0, " + c + ")", x.vote(0, 0, c), -1);
        }
        int[][] notLater = {{0, 0}, {0, 1}, {0, 2}, {1, 0}, {4, 0}, {4, 5}, {4, 6}, {6, 4},
            {8, 6}, {126, 0}, {124, 126}, {126, 126}};
        for (int[] pair : notLater) {
            due("vote(0, " + pair[0] + ", " + pair[1] + ")", x.vote(0, pair[0], pair[1]), -1);
        }
        due("votes(0) after wrong ones", x.votes(0), 0);
        due("support(0, 4) after wrong ones", x.support(0, 4), 0);
        due("vote(0, 0, 4) after wrong ones", x.vote(0, 0, 4), 0);
    }

    private static void voteAtTheEdgesOfTheCheckpoints() {
        int[][] pairs = {{0, 4}, {2, 4}, {2, 8}, {0, 126}, {122, 124}, {122, 126}, {120, 125}};
        for (int[] pair : pairs) {
            for (int v = 0; v < 8; v += 7) {
                VoteWatch x = new VoteWatch();
                due("vote(" + v + ", " + pair[0] + ", " + pair[1] + ")",
                    x.vote(v, pair[0], pair[1]), 0);
                due("its support", x.support(pair[0], pair[1]), 1);
                due("its validator's votes", x.votes(v), 1);
            }
        }
    }

    private static void voteHeldAlready() {
        VoteWatch x = new VoteWatch();
        due("first vote(0, 0, 4)", x.vote(0, 0, 4), 0);
        due("second vote(0, 0, 4)", x.vote(0, 0, 4), -2);
        due("offender(0) after the same vote twice", x.offender(0), 0);
        due("votes(0) after the same vote twice", x.votes(0), 1);
        due("support(0, 4) after the same vote twice", x.support(0, 4), 1);
        due("another's vote(1, 0, 4)", x.vote(1, 0, 4), 0);
        due("another target", x.vote(0, 0, 8), 0);
        due("another source", x.vote(0, 1, 4), 1);
        due("first vote again", x.vote(0, 0, 4), -2);
    }

    private static VoteWatch full() {
        VoteWatch x = new VoteWatch();
        for (int i = 0; i < 64; i++) {
            int epoch = i / 8;
            due("vote " + i + " of 64", x.vote(i % 8, 4 * epoch, 4 * epoch + 4), 0);
        }
        return x;
    }

    private static void voteBeyondSixtyFour() {
        VoteWatch x = full();
        due("65th vote", x.vote(0, 32, 36), -2);
        due("65th vote, an offence", x.vote(0, 0, 36), -2);
        due("held vote while full", x.vote(0, 0, 4), -2);
        due("wrong vote while full", x.vote(8, 0, 4), -1);
        due("wrong source while full", x.vote(0, 3, 4), -1);
        due("same epoch while full", x.vote(0, 4, 5), -1);
        due("highest when full", x.highest(), 32);
        for (int v = 0; v < 8; v++) {
            due("votes(" + v + ") when full", x.votes(v), 8);
        }
    }

    private static void voteNotTakenChangesNothing() {
        VoteWatch x = full();
        x.vote(0, 0, 36);
        x.vote(0, 0, 5);
        due("offender(0) after votes not taken", x.offender(0), 0);
        due("offended after votes not taken", x.offended(), 0);
        due("support(0, 36) after votes not taken", x.support(0, 36), 0);
        due("support(0, 5) after votes not taken", x.support(0, 5), 0);
        due("votes(0) after votes not taken", x.votes(0), 8);
    }

    private static void doubleVotes() {
        int[][] seconds = {{0, 9}, {0, 10}, {1, 8}, {4, 8}, {5, 10}};
        for (int[] second : seconds) {
            VoteWatch x = new VoteWatch();
            x.vote(0, 0, 8);
            due("double with (0, 8): (" + second[0] + ", " + second[1] + ")",
                x.vote(0, second[0], second[1]), 1);
            due("its offender", x.offender(0), 1);
        }
    }

    private static void surroundingVotes() {
        int[][] seconds = {{4, 20}, {6, 20}, {0, 22}, {4, 126}};
        for (int[] second : seconds) {
            VoteWatch x = new VoteWatch();
            x.vote(0, 8, 16);
            due("surrounds (8, 16): (" + second[0] + ", " + second[1] + ")",
                x.vote(0, second[0], second[1]), 2);
            due("its offender", x.offender(0), 1);
        }
    }

    private static void surroundedVotes() {
        int[][] seconds = {{8, 16}, {10, 18}, {8, 14}, {12, 16}};
        for (int[] second : seconds) {
            VoteWatch x = new VoteWatch();
            x.vote(0, 4, 20);
            due("surrounded by (4, 20): (" + second[0] + ", " + second[1] + ")",
                x.vote(0, second[0], second[1]), 4);
            due("its offender", x.offender(0), 1);
        }
    }

    // Epochs decide, not numbers: (10, 20) lies inside (8, 22) by number only.
    private static void touchingVotesAreNoOffence() {
        int[][] seconds = {{8, 24}, {9, 24}, {10, 12}, {8, 12}, {0, 12}, {4, 8}, {4, 12},
            {16, 24}, {20, 24}, {12, 24}, {24, 28}};
        for (int[] second : seconds) {
            VoteWatch x = new VoteWatch();
            x.vote(0, 9, 17);
            due("beside (9, 17): (" + second[0] + ", " + second[1] + ")",
                x.vote(0, second[0], second[1]), 0);
            due("its offender", x.offender(0), 0);
        }
        VoteWatch x = new VoteWatch();
        x.vote(0, 8, 22);
        due("(10, 20) with (8, 22)", x.vote(0, 10, 20), 1);
    }

    private static void offencesAreSummedOnce() {
        VoteWatch x = new VoteWatch();
        due("(12, 16)", x.vote(0, 12, 16), 0);
        due("(12, 20)", x.vote(0, 12, 20), 0);
        due("(8, 24) surrounds two", x.vote(0, 8, 24), 2);
        due("(8, 20) doubles and surrounds", x.vote(0, 8, 20), 3);
        due("(12, 21) doubles twice, is surrounded", x.vote(0, 12, 21), 5);
        due("(0, 28) surrounds all", x.vote(0, 0, 28), 2);
        due("(4, 26) doubles, surrounds, is surrounded", x.vote(0, 4, 26), 7);
        VoteWatch y = new VoteWatch();
        y.vote(0, 12, 16);
        y.vote(0, 0, 28);
        due("(8, 20) surrounds and is surrounded", y.vote(0, 8, 20), 6);
    }

    private static void offencesAreOfOneValidator() {
        VoteWatch x = new VoteWatch();
        due("(8, 16) of 0", x.vote(0, 8, 16), 0);
        due("(8, 17) of 1", x.vote(1, 8, 17), 0);
        due("(4, 20) of 2", x.vote(2, 4, 20), 0);
        due("(12, 14) is wrong", x.vote(3, 12, 14), -1);
        due("(9, 12) of 3", x.vote(3, 9, 12), 0);
        for (int v = 0; v < 8; v++) {
            due("offender(" + v + ") by others' votes", x.offender(v), 0);
        }
        due("offended by others' votes", x.offended(), 0);
    }

    // Promise 4

    private static void offenders() {
        VoteWatch x = new VoteWatch();
        for (int v : NOT_VALIDATORS) {
            due("offender(" + v + ")", x.offender(v), -1);
        }
        x.vote(7, 0, 4);
        due("offender(7) with one vote", x.offender(7), 0);
        x.vote(7, 0, 5);
        due("offender(7) with a double vote", x.offender(7), 1);
        x.vote(7, 8, 12);
        due("offender(7) after a harmless vote", x.offender(7), 1);
        x.stake(7, 0);
        due("offender(7) without stake", x.offender(7), 1);
        due("offender(6)", x.offender(6), 0);
        due("offender(0)", x.offender(0), 0);
    }

    // Promise 5

    private static void offendedStakes() {
        VoteWatch x = new VoteWatch();
        for (int v = 0; v < 8; v++) {
            x.stake(v, 10 + v);
        }
        x.vote(0, 0, 4);
        x.vote(0, 0, 5);
        due("offended by 0", x.offended(), 10);
        x.vote(0, 0, 6);
        due("offended by 0 twice", x.offended(), 10);
        x.vote(7, 4, 8);
        x.vote(7, 0, 12);
        due("offended by 0 and 7", x.offended(), 27);
        x.stake(0, 100);
        due("offended after a stake", x.offended(), 117);
        x.stake(7, 0);
        due("offended after no stake", x.offended(), 100);
        x.stake(3, 100);
        due("offended after another's stake", x.offended(), 100);
    }

    // Promise 6

    private static void justifiedAtTwoThirds() {
        VoteWatch x = new VoteWatch();
        x.stake(6, 0);
        x.stake(7, 0);
        votesOf(x, 0, 3, 0, 4);
        due("justified(4) at 4 of 6", x.justified(4), 0);
        votesOf(x, 6, 7, 0, 4);
        due("justified(4) at 4 of 6 and votes without stake", x.justified(4), 0);
        x.vote(4, 0, 4);
        due("justified(4) at 5 of 6", x.justified(4), 1);
        VoteWatch y = new VoteWatch();
        votesOf(y, 0, 4, 0, 4);
        due("justified(4) at 5 of 8", y.justified(4), 0);
        y.vote(5, 0, 4);
        due("justified(4) at 6 of 8", y.justified(4), 1);
        VoteWatch z = new VoteWatch();
        for (int v = 0; v < 8; v++) {
            z.stake(v, 100);
        }
        z.stake(7, 50);
        votesOf(z, 0, 4, 0, 4);
        due("justified(4) at 500 of 750", z.justified(4), 0);
        z.stake(7, 49);
        due("justified(4) at 500 of 749", z.justified(4), 1);
    }

    private static void justifiedThroughChain() {
        VoteWatch x = new VoteWatch();
        votesOf(x, 0, 5, 8, 126);
        votesOf(x, 0, 5, 5, 8);
        votesOf(x, 0, 5, 1, 6);
        due("justified(126) without its chain", x.justified(126), 0);
        due("justified(8) without its chain", x.justified(8), 0);
        due("justified(6) from 1, which is not", x.justified(6), 0);
        due("justified(1)", x.justified(1), 0);
        due("justified(2)", x.justified(2), 0);
        votesOf(x, 0, 5, 0, 5);
        due("justified(5) with its chain", x.justified(5), 1);
        due("justified(8) with its chain", x.justified(8), 1);
        due("justified(126) with its chain", x.justified(126), 1);
        due("justified(4) beside it", x.justified(4), 0);
        due("justified(6) beside it", x.justified(6), 0);
        VoteWatch y = new VoteWatch();
        for (int v = 1; v < 8; v++) {
            y.stake(v, 0);
        }
        for (int epoch = 30; epoch >= 0; epoch--) {
            y.vote(0, 4 * epoch, 4 * epoch + 4);
        }
        due("justified(124) through all epochs", y.justified(124), 1);
    }

    private static void justifiedFollowsTheStakes() {
        VoteWatch x = new VoteWatch();
        votesOf(x, 0, 5, 0, 4);
        votesOf(x, 2, 7, 4, 8);
        due("justified(8) at first", x.justified(8), 1);
        x.stake(7, 100);
        due("justified(4) with a great stake against it", x.justified(4), 0);
        due("justified(8) without 4", x.justified(8), 0);
        due("isFinal(0) with a great stake against it", x.isFinal(0), 0);
        due("isFinal(4) without 4", x.isFinal(4), 0);
        due("highest without 4", x.highest(), 0);
        due("justifiedIn(1) without 4", x.justifiedIn(1), 0);
        x.stake(7, 1);
        due("justified(8) again", x.justified(8), 1);
    }

    private static void justifiedNeedsOnePair() {
        VoteWatch x = new VoteWatch();
        votesOf(x, 0, 5, 0, 4);
        votesOf(x, 0, 3, 0, 8);
        votesOf(x, 4, 7, 4, 8);
        due("justified(8) by two halves", x.justified(8), 0);
        x.vote(4, 0, 8);
        x.vote(5, 0, 8);
        due("justified(8) by one of two pairs", x.justified(8), 1);
    }

    private static void justifiedOfNoCheckpoint() {
        VoteWatch x = new VoteWatch();
        votesOf(x, 0, 7, 0, 126);
        for (int c : NOT_CHECKPOINTS) {
            due("justified(" + c + ")", x.justified(c), -1);
        }
        for (int epoch = 0; epoch < 32; epoch++) {
            due("justified of branch 3 in " + epoch, x.justified(4 * epoch + 3), -1);
        }
    }

    private static void nothingIsSupportedWithoutStake() {
        VoteWatch x = new VoteWatch();
        votesOf(x, 0, 7, 0, 4);
        for (int v = 0; v < 8; v++) {
            x.stake(v, 0);
        }
        due("justified(4) without any stake", x.justified(4), 0);
        due("justified(0) without any stake", x.justified(0), 1);
        due("isFinal(0) without any stake", x.isFinal(0), 0);
        due("support(0, 4) without any stake", x.support(0, 4), 0);
        x.stake(5, 1);
        due("justified(4) with one stake", x.justified(4), 1);
        due("isFinal(0) with one stake", x.isFinal(0), 1);
    }

    // Promise 7

    private static void finalNeedsTheNextEpoch() {
        VoteWatch x = new VoteWatch();
        votesOf(x, 0, 5, 0, 8);
        due("justified(8) over an epoch", x.justified(8), 1);
        due("isFinal(0) over an epoch", x.isFinal(0), 0);
        votesOf(x, 0, 4, 0, 5);
        due("isFinal(0) at 5 of 8", x.isFinal(0), 0);
        x.vote(5, 0, 5);
        due("isFinal(0) at 6 of 8", x.isFinal(0), 1);
        due("isFinal(8)", x.isFinal(8), 0);
        due("isFinal(5)", x.isFinal(5), 0);
        votesOf(x, 0, 5, 8, 16);
        due("isFinal(8) over an epoch", x.isFinal(8), 0);
        votesOf(x, 0, 5, 8, 13);
        due("isFinal(8)", x.isFinal(8), 1);
    }

    private static void finalNeedsJustified() {
        VoteWatch x = new VoteWatch();
        votesOf(x, 0, 7, 4, 8);
        votesOf(x, 0, 7, 1, 4);
        due("isFinal(4), not justified", x.isFinal(4), 0);
        due("isFinal(1), not justified", x.isFinal(1), 0);
        votesOf(x, 0, 7, 0, 4);
        due("isFinal(4), justified", x.isFinal(4), 1);
        due("isFinal(1), still not justified", x.isFinal(1), 0);
    }

    private static void finalWithAnyBranch() {
        for (int branch = 0; branch < 3; branch++) {
            VoteWatch x = new VoteWatch();
            votesOf(x, 0, 5, 0, 6);
            votesOf(x, 0, 5, 6, 8 + branch);
            due("isFinal(6) by branch " + branch, x.isFinal(6), 1);
        }
        VoteWatch y = new VoteWatch();
        votesOf(y, 0, 3, 0, 4);
        votesOf(y, 4, 7, 0, 5);
        due("isFinal(0) by two halves", y.isFinal(0), 0);
    }

    private static void finalInTheLastEpoch() {
        VoteWatch x = new VoteWatch();
        votesOf(x, 0, 7, 0, 122);
        votesOf(x, 0, 7, 122, 126);
        due("isFinal(122)", x.isFinal(122), 1);
        due("justified(126)", x.justified(126), 1);
        for (int c = 124; c < 127; c++) {
            due("isFinal(" + c + ")", x.isFinal(c), 0);
        }
    }

    private static void finalOfNoCheckpoint() {
        VoteWatch x = new VoteWatch();
        votesOf(x, 0, 7, 0, 4);
        for (int c : NOT_CHECKPOINTS) {
            due("isFinal(" + c + ")", x.isFinal(c), -1);
        }
        for (int epoch = 0; epoch < 32; epoch++) {
            due("isFinal of branch 3 in " + epoch, x.isFinal(4 * epoch + 3), -1);
        }
    }

    // Promise 8

    private static void highestByNumber() {
        VoteWatch x = new VoteWatch();
        votesOf(x, 0, 5, 0, 5);
        due("highest with 5", x.highest(), 5);
        votesOf(x, 0, 5, 0, 4);
        due("highest with 4 and 5", x.highest(), 5);
        votesOf(x, 0, 5, 0, 6);
        due("highest with 4, 5 and 6", x.highest(), 6);
        votesOf(x, 0, 5, 10, 20);
        due("highest without 10", x.highest(), 6);
        votesOf(x, 0, 5, 6, 126);
        due("highest with 126", x.highest(), 126);
        votesOf(x, 0, 5, 0, 8);
        due("highest with 8 later", x.highest(), 126);
    }

    // Promise 9

    private static void justifiedInEpoch() {
        VoteWatch x = new VoteWatch();
        int[] notEpochs = {-1, 32, 33, 126, Integer.MIN_VALUE, Integer.MAX_VALUE, 1 << 30};
        for (int epoch : notEpochs) {
            due("justifiedIn(" + epoch + ")", x.justifiedIn(epoch), -1);
        }
        due("justifiedIn(0)", x.justifiedIn(0), 1);
        due("justifiedIn(31)", x.justifiedIn(31), 0);
        votesOf(x, 0, 5, 0, 125);
        due("justifiedIn(31) with 125", x.justifiedIn(31), 1);
        votesOf(x, 0, 5, 0, 124);
        due("justifiedIn(31) with 124 and 125", x.justifiedIn(31), 2);
        votesOf(x, 0, 5, 0, 126);
        due("justifiedIn(31) with all three", x.justifiedIn(31), 3);
        votesOf(x, 0, 4, 0, 120);
        due("justifiedIn(30) at 5 of 8", x.justifiedIn(30), 0);
        due("justifiedIn(0) at the end", x.justifiedIn(0), 1);
    }

    // Promise 10

    private static void supportSums() {
        VoteWatch x = new VoteWatch();
        for (int v = 0; v < 8; v++) {
            x.stake(v, 10 + v);
        }
        x.vote(0, 5, 9);
        x.vote(7, 5, 9);
        x.vote(3, 5, 10);
        x.vote(4, 6, 9);
        due("support(5, 9)", x.support(5, 9), 27);
        due("support(5, 10)", x.support(5, 10), 13);
        due("support(6, 9)", x.support(6, 9), 14);
        due("support(9, 5)", x.support(9, 5), 0);
        due("support(5, 5)", x.support(5, 5), 0);
        due("support(0, 9)", x.support(0, 9), 0);
        due("support(0, 0)", x.support(0, 0), 0);
        x.stake(7, 100);
        due("support(5, 9) after a stake", x.support(5, 9), 110);
        x.vote(0, 5, 8);
        due("support(5, 9) after an offence", x.support(5, 9), 110);
        for (int v = 0; v < 8; v++) {
            x.stake(v, 100);
            x.vote(v, 0, 4);
        }
        due("support(0, 4) of all", x.support(0, 4), 800);
    }

    private static void supportOfNoCheckpoint() {
        VoteWatch x = new VoteWatch();
        votesOf(x, 0, 7, 0, 4);
        votesOf(x, 0, 7, 4, 8);
        for (int c : NOT_CHECKPOINTS) {
            due("support(" + c + ", 4)", x.support(c, 4), 0);
            due("support(0, " + c + ")", x.support(0, c), 0);
            due("support(" + c + ", " + c + ")", x.support(c, c), 0);
        }
    }

    // Promise 11

    private static void votesCounted() {
        VoteWatch x = new VoteWatch();
        for (int v : NOT_VALIDATORS) {
            due("votes(" + v + ")", x.votes(v), -1);
        }
        x.vote(0, 0, 4);
        x.vote(0, 4, 8);
        x.vote(0, 0, 5);
        x.vote(0, 0, 5);
        x.vote(0, 5, 4);
        x.vote(7, 0, 4);
        due("votes(0)", x.votes(0), 3);
        due("votes(7)", x.votes(7), 1);
        due("votes(1)", x.votes(1), 0);
        x.stake(0, 0);
        due("votes(0) without stake", x.votes(0), 3);
        VoteWatch y = new VoteWatch();
        for (int i = 0; i < 70; i++) {
            y.vote(7, i / 31, 4 * (1 + i % 31));
        }
        due("votes(7) of 64 held", y.votes(7), 64);
        due("votes(0) beside 64", y.votes(0), 0);
    }

    private static void objectsAreApart() {
        VoteWatch x = new VoteWatch();
        VoteWatch y = new VoteWatch();
        votesOf(x, 0, 7, 0, 4);
        x.vote(0, 0, 5);
        x.stake(0, 9);
        due("votes(0) of the other object", y.votes(0), 0);
        due("justified(4) of the other object", y.justified(4), 0);
        due("offender(0) of the other object", y.offender(0), 0);
        due("stake(0) of the other object", y.stake(0, 1), 1);
        due("justified(4) of this object", x.justified(4), 1);
    }
}
