import java.util.ArrayList;
import java.util.List;
import java.util.function.IntUnaryOperator;
import java.util.function.Supplier;

// Each sentence of the document that names a boundary case has a test of its
// own here, under the sentence's words. No object is used for more than 512 calls.
public final class BoundaryTest {
    private static final int LEAST = Integer.MIN_VALUE;
    private static final int MOST = Integer.MAX_VALUE;
    private static final int[] CHECKPOINTS = checkpoints();
    private static final int[] NOT_VALIDATORS = outside(0, 7);
    private static final int[] NOT_EPOCHS = outside(0, 31);
    private static final int[] NOT_CHECKPOINTS = notCheckpoints();

    private static String sentence = "";
    private static int wrong = 0;
    private static int wrongInTest = 0;
    private static int tests = 0;

    public static void main(String[] args) {
        whatItIs();
        terms();
        offences();
        support();
        promises1And2();
        promise3();
        promises4To7();
        promises8To11();
        System.out.println(wrong == 0 ? "all " + tests + " boundary sentences hold"
            : wrong + " answers at the boundaries are wrong");
        if (wrong != 0) {
            System.exit(1);
        }
    }

    // The sentences

    private static void whatItIs() {
        test("What it is: an object is used for at most 512 calls", BoundaryTest::call512);
        test("Not promised: nothing beyond the state changes described (questions change nothing)",
            BoundaryTest::questionsChangeNothing);
    }

    private static void terms() {
        test("Terms: EPOCHS are 0 to 31", BoundaryTest::epochs);
        test("Terms: in each there are three CHECKPOINTS, branch from 0 to 2",
            BoundaryTest::branches);
        test("Terms: written as the number 4 * epoch + branch", BoundaryTest::numbers);
        test("Terms: VALIDATORS are 0 to 7", BoundaryTest::validators);
        test("Terms: each has a STAKE from 0 to 100", BoundaryTest::stakesFrom0To100);
        test("Terms: (1 at the start)", BoundaryTest::stakesAtTheStart);
        test("Terms: the TOTAL is the sum of all stakes", BoundaryTest::totalOfAll);
        test("Terms: to a checkpoint of a later epoch", BoundaryTest::laterEpoch);
        test("Terms: at most 64 votes are held", BoundaryTest::atMost64);
        test("Terms: no vote (validator, source, target) is held twice",
            BoundaryTest::notHeldTwice);
    }

    private static void offences() {
        test("Terms: two different votes ...", BoundaryTest::theSameVoteIsNoDouble);
        test("Terms: ... of one validator ...", BoundaryTest::othersAreNoOffence);
        test("Terms: ... with targets of the same epoch are a DOUBLE vote",
            BoundaryTest::doubleAtTheEdgesOfTheEpoch);
        test("Terms: source's epoch is less than that one's source's epoch",
            BoundaryTest::surroundsBySource);
        test("Terms: target's epoch is greater than that one's target's epoch",
            BoundaryTest::surroundsByTarget);
        test("Terms: DOUBLE and SURROUNDS, all pairs of votes", BoundaryTest::allPairsOfVotes);
        test("Terms: OFFENDER if two of its held votes are a double vote",
            BoundaryTest::offenderByDouble);
        test("Terms: OFFENDER if one of them surrounds the other",
            BoundaryTest::offenderBySurround);
        test("Terms: OFFENDER by held votes alone", BoundaryTest::offenderByHeldVotesAlone);
    }

    private static void support() {
        test("Terms: 3 times the sum ... is greater than 2 times the total",
            BoundaryTest::greaterThanTwoThirds);
        test("Terms: greater than 2 times a total of 0", BoundaryTest::totalOfZero);
        test("Terms: validators that have a held vote from c to d",
            BoundaryTest::supportOfOnePair);
        test("Terms: checkpoint 0 is JUSTIFIED", BoundaryTest::zeroIsJustified);
        test("Terms: for some justified checkpoint c the pair (c, d) is supported",
            BoundaryTest::someJustifiedSource);
        test("Terms: justified through a chain of any length", BoundaryTest::chains);
        test("Terms: a justified checkpoint c is FINAL", BoundaryTest::finalIsJustified);
        test("Terms: for some checkpoint d ...", BoundaryTest::finalBySomeTarget);
        test("Terms: ... of the next epoch", BoundaryTest::finalByNextEpoch);
        test("Terms: FINAL in the last epoch, which has no next", BoundaryTest::lastEpoch);
    }

    private static void promises1And2() {
        test("Promise 1: all stakes are 1", BoundaryTest::newStakes);
        test("Promise 1: no vote is held", BoundaryTest::newVotes);
        test("Promise 2: less than 0 becomes 0", BoundaryTest::stakeTooSmall);
        test("Promise 2: more than 100 becomes 100", BoundaryTest::stakeTooLarge);
        test("Promise 2: answers the stake before", BoundaryTest::stakeBefore);
        test("Promise 2: -1 if validator is not from 0 to 7", BoundaryTest::stakeOfNone);
    }

    private static void promise3() {
        test("Promise 3: holds the vote", BoundaryTest::everyVoteIsHeld);
        test("Promise 3: -1 if validator is not from 0 to 7", BoundaryTest::voteOfNone);
        test("Promise 3: -1 if source is not a checkpoint", BoundaryTest::voteFromNone);
        test("Promise 3: -1 if target is not a checkpoint", BoundaryTest::voteToNone);
        test("Promise 3: (from 0 to 126, ...)", BoundaryTest::from0To126);
        test("Promise 3: (... and not a multiple of 4 plus 3)", BoundaryTest::multipleOf4Plus3);
        test("Promise 3: -1 if the target's epoch is not greater than the source's",
            BoundaryTest::voteNotLater);
        test("Promise 3: answers -1 and changes nothing", BoundaryTest::wrongVotesChangeNothing);
        test("Promise 3: -2 if the vote is held already", BoundaryTest::voteHeldAlready);
        test("Promise 3: -2 if 64 votes are held", BoundaryTest::voteWhenFull);
        test("Promise 3: -2 and changes nothing", BoundaryTest::refusedVotesChangeNothing);
        test("Promise 3: -1 comes before -2", BoundaryTest::wrongBeforeRefused);
        test("Promise 3: otherwise answers the sum", BoundaryTest::sumOfOffences);
        test("Promise 3: each of 1, 2 and 4 at most once", BoundaryTest::eachOffenceOnce);
        test("Promise 3: with a vote held before", BoundaryTest::firstAgainstLast);
    }

    private static void promises4To7() {
        test("Promise 4: 1 if the validator is an offender, else 0", BoundaryTest::offenderOrNot);
        test("Promise 4: -1 if validator is not from 0 to 7", BoundaryTest::offenderOfNone);
        test("Promise 5: the sum with no offender", BoundaryTest::offendedByNone);
        test("Promise 5: the sum of the stakes of all offenders", BoundaryTest::offendedByAll);
        test("Promise 5: stakes of the moment, 0 among them", BoundaryTest::offendedOfTheMoment);
        test("Promise 6: 1 if the checkpoint is justified, else 0", BoundaryTest::justifiedOrNot);
        test("Promise 6: -1 if it is not a checkpoint", BoundaryTest::justifiedOfNone);
        test("Promise 7: 1 if the checkpoint is final, else 0", BoundaryTest::finalOrNot);
        test("Promise 7: -1 if it is not a checkpoint", BoundaryTest::finalOfNone);
    }

    private static void promises8To11() {
        test("Promise 8: the greatest with none but 0", BoundaryTest::highestOfNone);
        test("Promise 8: the greatest justified checkpoint (by its number)",
            BoundaryTest::highestByNumber);
        test("Promise 9: how many, from 0 to 3", BoundaryTest::howManyInEpoch);
        test("Promise 9: -1 if epoch is not from 0 to 31", BoundaryTest::justifiedInNone);
        test("Promise 10: the sum of the stakes, from 0 to 800", BoundaryTest::leastAndMostSupport);
        test("Promise 10: of the validators that have a held vote from source to target",
            BoundaryTest::supportOfThePairAlone);
        test("Promise 10: (0 if one of them is not a checkpoint)", BoundaryTest::supportOfNone);
        test("Promise 11: how many votes, from 0 to 64", BoundaryTest::votesFrom0To64);
        test("Promise 11: -1 if validator is not from 0 to 7", BoundaryTest::votesOfNone);
    }

    // What it is

    private static void call512() {
        due("the 512th call, stake", after511().stake(0, 9), 100);
        due("the 512th call, vote", after511().vote(7, 0, 120), 2);
        due("the 512th call, offender", after511().offender(7), 0);
        due("the 512th call, offended", after511().offended(), 0);
        due("the 512th call, justified", after511().justified(32), 1);
        due("the 512th call, isFinal", after511().isFinal(28), 1);
        due("the 512th call, highest", after511().highest(), 32);
        due("the 512th call, justifiedIn", after511().justifiedIn(8), 1);
        due("the 512th call, support", after511().support(28, 32), 106);
        due("the 512th call, votes", after511().votes(7), 7);
    }

    // All votes of full() but the last one; the last stake of validator 0 is 100.
    private static VoteWatch after511() {
        VoteWatch x = new VoteWatch();
        for (int i = 0; i < 63; i++) {
            x.vote(i % 8, i / 8 * 4, i / 8 * 4 + 4);
        }
        for (int i = 63; i < 511; i++) {
            x.stake(0, i % 2 == 0 ? 100 : 1);
        }
        return x;
    }

    private static void questionsChangeNothing() {
        sameState("after questions", BoundaryTest::mixed, () -> {
            VoteWatch x = mixed();
            for (int n = -1; n <= 8; n++) {
                x.offender(n);
                x.votes(n);
                x.justifiedIn(4 * n);
                x.justified(16 * n);
                x.isFinal(n);
                x.support(n, 4);
                x.support(0, n);
                x.offended();
                x.highest();
            }
            return x;
        });
    }

    // Terms: epochs, checkpoints, validators, stakes, votes

    private static void epochs() {
        for (int epoch = 0; epoch <= 31; epoch++) {
            int want = epoch == 0 ? 1 : 0;
            due("justifiedIn(" + epoch + ")", new VoteWatch().justifiedIn(epoch), want);
            due("justified(" + 4 * epoch + ")", new VoteWatch().justified(4 * epoch), want);
        }
        due("justifiedIn(-1)", new VoteWatch().justifiedIn(-1), -1);
        due("justifiedIn(32)", new VoteWatch().justifiedIn(32), -1);
        due("justified(-4), in epoch -1", new VoteWatch().justified(-4), -1);
        due("justified(128), in epoch 32", new VoteWatch().justified(128), -1);
        due("vote(0, 0, 124), to epoch 31", new VoteWatch().vote(0, 0, 124), 0);
        due("vote(0, 0, 128), to epoch 32", new VoteWatch().vote(0, 0, 128), -1);
        due("vote(0, -4, 4), from epoch -1", new VoteWatch().vote(0, -4, 4), -1);
    }

    private static void branches() {
        for (int epoch = 0; epoch <= 31; epoch++) {
            for (int branch = 0; branch <= 3; branch++) {
                int c = 4 * epoch + branch;
                int none = branch == 3 ? -1 : 0;
                due("justified(" + c + ")", new VoteWatch().justified(c), c == 0 ? 1 : none);
                due("isFinal(" + c + ")", new VoteWatch().isFinal(c), none);
                if (epoch > 0) {
                    due("vote(0, 0, " + c + ")", new VoteWatch().vote(0, 0, c), none);
                }
                if (epoch < 31) {
                    due("vote(0, " + c + ", 124)", new VoteWatch().vote(0, c, 124), none);
                }
            }
        }
    }

    private static void numbers() {
        for (int epoch = 1; epoch <= 31; epoch++) {
            for (int branch = 0; branch <= 2; branch++) {
                int c = 4 * epoch + branch;
                VoteWatch x = soleStake();
                x.vote(0, 0, c);
                for (int d : CHECKPOINTS) {
                    due("justified(" + d + ") with " + c, x.justified(d), d == 0 || d == c ? 1 : 0);
                }
                for (int e = 0; e <= 31; e++) {
                    due("justifiedIn(" + e + ") with " + c, x.justifiedIn(e),
                        e == 0 || e == epoch ? 1 : 0);
                }
            }
        }
    }

    private static void validators() {
        for (int v = -2; v <= 9; v++) {
            boolean is = v >= 0 && v <= 7;
            VoteWatch x = new VoteWatch();
            due("stake(" + v + ", 1)", x.stake(v, 1), is ? 1 : -1);
            due("vote(" + v + ", 0, 4)", x.vote(v, 0, 4), is ? 0 : -1);
            due("votes(" + v + ")", x.votes(v), is ? 1 : -1);
            due("offender(" + v + ")", x.offender(v), is ? 0 : -1);
        }
    }

    private static void stakesFrom0To100() {
        for (int v = 0; v <= 7; v++) {
            VoteWatch x = new VoteWatch();
            x.vote(v, 0, 4);
            for (int stake = -1; stake <= 101; stake++) {
                int kept = stake < 0 ? 0 : stake > 100 ? 100 : stake;
                x.stake(v, stake);
                due("support by " + v + " with " + stake, x.support(0, 4), kept);
                due("stake of " + v + " after " + stake, x.stake(v, 50), kept);
            }
        }
    }

    private static void stakesAtTheStart() {
        VoteWatch x = new VoteWatch();
        for (int v = 0; v <= 7; v++) {
            x.vote(v, 0, 4);
            due("support by 0 to " + v, x.support(0, 4), v + 1);
            due("justified(4) by 0 to " + v, x.justified(4), v < 5 ? 0 : 1);
        }
        for (int v = 0; v <= 7; v++) {
            x.vote(v, 0, 5);
            due("offended by 0 to " + v, x.offended(), v + 1);
        }
    }

    private static void totalOfAll() {
        for (int v = 0; v <= 7; v++) {
            for (int silent = 0; silent <= 7; silent++) {
                if (silent != v) {
                    totalOfTwo(v, silent);
                }
            }
        }
        VoteWatch x = withStakes(100, 100, 100, 100, 100, 100, 100, 100);
        votesOf(x, 0, 4, 0, 4);
        due("justified(4) at 500 of 800", x.justified(4), 0);
        x.vote(5, 0, 4);
        due("justified(4) at 600 of 800", x.justified(4), 1);
    }

    private static void totalOfTwo(int v, int silent) {
        VoteWatch x = withStakes(0, 0, 0, 0, 0, 0, 0, 0);
        String who = " by " + v + " against " + silent;
        x.stake(v, 2);
        x.vote(v, 0, 4);
        due("justified(4) at 2 of 2" + who, x.justified(4), 1);
        x.stake(silent, 1);
        due("justified(4) at 2 of 3" + who, x.justified(4), 0);
        x.vote(silent, 0, 5);
        x.vote(silent, 0, 6);
        due("justified(4) at 2 of 3, an offender's stake" + who, x.justified(4), 0);
        x.stake(v, 3);
        due("justified(4) at 3 of 4" + who, x.justified(4), 1);
    }

    private static void laterEpoch() {
        for (int epoch = 0; epoch <= 31; epoch++) {
            for (int a = 4 * epoch; a <= 4 * epoch + 2; a++) {
                for (int b = 0; b <= 2; b++) {
                    dueVote(a, 4 * epoch + b, -1);
                    if (epoch < 31) {
                        dueVote(a, 4 * epoch + 4 + b, 0);
                    }
                    if (epoch > 0) {
                        dueVote(a, 4 * epoch - 4 + b, -1);
                    }
                }
            }
        }
    }

    private static void dueVote(int source, int target, int want) {
        VoteWatch x = new VoteWatch();
        due("vote(0, " + source + ", " + target + ")", x.vote(0, source, target), want);
    }

    private static void atMost64() {
        for (int v = 0; v <= 7; v++) {
            VoteWatch alone = new VoteWatch();
            for (int i = 0; i < 64; i++) {
                due("vote " + (i + 1) + " of " + v + " is taken",
                    Math.min(0, voteNumber(alone, v, i)), 0);
            }
            due("votes(" + v + ") with 64", alone.votes(v), 64);
            due("vote 65 of " + v, voteNumber(alone, v, 64), -2);
            due("votes(" + v + ") after the 65th", alone.votes(v), 64);
        }
        VoteWatch x = new VoteWatch();
        for (int i = 0; i < 63; i++) {
            voteNumber(x, i % 8, i);
            due("a vote held already", voteNumber(x, i % 8, i), -2);
            due("a wrong vote", x.vote(i % 8, 4, 4), -1);
        }
        due("vote 64 after refused ones", Math.min(0, voteNumber(x, 7, 63)), 0);
        due("vote 65 after refused ones", voteNumber(x, 7, 64), -2);
        int sum = 0;
        for (int v = 0; v <= 7; v++) {
            sum += x.votes(v);
        }
        due("the sum of all votes", sum, 64);
    }

    // Up to 93 different votes of a validator, by their number.
    private static int voteNumber(VoteWatch x, int v, int number) {
        return x.vote(v, number / 31, 4 + number % 31 * 4);
    }

    private static void notHeldTwice() {
        VoteWatch x = new VoteWatch();
        for (int i = 0; i < 40; i++) {
            voteNumber(x, i % 8, i);
        }
        for (int i = 0; i < 40; i++) {
            due("vote " + i + " again", voteNumber(x, i % 8, i), -2);
            due("its support", x.support(i / 31, 4 + i % 31 * 4), 1);
        }
        for (int v = 0; v <= 7; v++) {
            due("votes(" + v + ")", x.votes(v), 5);
        }
        VoteWatch y = new VoteWatch();
        due("vote(0, 4, 8)", y.vote(0, 4, 8), 0);
        due("another validator", y.vote(1, 4, 8), 0);
        due("another source", y.vote(0, 5, 8), 1);
        due("another target", y.vote(0, 4, 9), 1);
        due("votes(0)", y.votes(0), 3);
        due("votes(1)", y.votes(1), 1);
    }

    // Terms: offences

    private static void theSameVoteIsNoDouble() {
        for (int v = 0; v <= 7; v++) {
            VoteWatch x = new VoteWatch();
            x.vote(v, 0, 4);
            x.vote(v, 0, 4);
            due("offender(" + v + ")", x.offender(v), 0);
            due("offended", x.offended(), 0);
            due("vote(" + v + ", 0, 8)", x.vote(v, 0, 8), 0);
        }
    }

    private static void othersAreNoOffence() {
        int[][] others = {{8, 16}, {8, 17}, {4, 18}, {4, 20}, {0, 126}, {12, 16}};
        for (int v = 0; v <= 7; v++) {
            for (int w = 0; w <= 7; w++) {
                for (int i = 0; i < others.length && v != w; i++) {
                    VoteWatch x = new VoteWatch();
                    x.vote(v, 8, 16);
                    x.vote(v, 16, 20);
                    due("(" + others[i][0] + ", " + others[i][1] + ") of " + w + ", not " + v,
                        x.vote(w, others[i][0], others[i][1]), 0);
                    due("offender(" + v + ")", x.offender(v), 0);
                    due("offender(" + w + ")", x.offender(w), 0);
                    due("offended", x.offended(), 0);
                }
            }
        }
    }

    private static void doubleAtTheEdgesOfTheEpoch() {
        for (int epoch = 1; epoch <= 31; epoch++) {
            for (int a = 0; a <= 2; a++) {
                for (int b = 0; b <= 2; b++) {
                    dueSecond(0, 4 * epoch + a, 1, 4 * epoch + b, 1);
                    if (epoch < 31) {
                        dueSecond(0, 4 * epoch + a, 0, 4 * epoch + 4 + b, 0);
                        dueSecond(0, 4 * epoch + 4 + b, 0, 4 * epoch + a, 0);
                    }
                }
            }
        }
    }

    // What the second vote answers, and whether the two make an offender.
    private static void dueSecond(int source1, int target1, int source2, int target2, int want) {
        VoteWatch x = new VoteWatch();
        String votes = "(" + source1 + ", " + target1 + "), (" + source2 + ", " + target2 + ")";
        due("first of " + votes, x.vote(5, source1, target1), 0);
        due("second of " + votes, x.vote(5, source2, target2), want);
        due("offender by " + votes, x.offender(5), want == 0 ? 0 : 1);
    }

    private static void surroundsBySource() {
        for (int epoch = 1; epoch <= 29; epoch++) {
            for (int a = 4 * epoch; a <= 4 * epoch + 2; a++) {
                for (int b = 4 * epoch; b <= 4 * epoch + 2; b++) {
                    dueSecond(a, 4 * epoch + 4, b - 4, 4 * epoch + 8, 2);
                    dueSecond(a, 4 * epoch + 4, b, 4 * epoch + 8, 0);
                    dueSecond(a, 4 * epoch + 4, b + 4, 4 * epoch + 8, 0);
                    dueSecond(b - 4, 4 * epoch + 8, a, 4 * epoch + 4, 4);
                    dueSecond(b, 4 * epoch + 8, a, 4 * epoch + 4, 0);
                    dueSecond(b + 4, 4 * epoch + 8, a, 4 * epoch + 4, 0);
                }
            }
        }
    }

    private static void surroundsByTarget() {
        for (int epoch = 3; epoch <= 30; epoch++) {
            for (int a = 4 * epoch; a <= 4 * epoch + 2; a++) {
                for (int b = 4 * epoch; b <= 4 * epoch + 2; b++) {
                    dueSecond(4, a, 0, b + 4, 2);
                    dueSecond(4, a, 0, b, 1);
                    dueSecond(4, a, 0, b - 4, 0);
                    dueSecond(0, b + 4, 4, a, 4);
                    dueSecond(0, b, 4, a, 1);
                    dueSecond(0, b - 4, 4, a, 0);
                }
            }
        }
    }

    private static void allPairsOfVotes() {
        for (int s1 = 0; s1 <= 30; s1++) {
            for (int t1 = s1 + 1; t1 <= 31; t1++) {
                for (int s2 = 0; s2 <= 30; s2++) {
                    for (int t2 = s2 + 1; t2 <= 31; t2++) {
                        duePairOfEpochs(s1, t1, s2, t2);
                    }
                }
            }
        }
    }

    // The branches vary; those of the targets differ, so the two are never the same vote.
    private static void duePairOfEpochs(int s1, int t1, int s2, int t2) {
        int want = t1 == t2 ? 1 : s2 < s1 && t2 > t1 ? 2 : s1 < s2 && t1 > t2 ? 4 : 0;
        int turn = s1 + 2 * t1 + 5 * s2 + 7 * t2;
        dueSecond(4 * s1 + turn % 3, 4 * t1 + turn / 3 % 2,
            4 * s2 + turn / 6 % 3, 4 * t2 + 1 + turn / 3 % 2, want);
    }

    private static void offenderByDouble() {
        for (int v = 0; v <= 7; v++) {
            VoteWatch x = new VoteWatch();
            x.vote(v, 0, 124);
            due("offender(" + v + ") with one vote", x.offender(v), 0);
            x.vote(v, 0, 126);
            due("offender(" + v + ") with two", x.offender(v), 1);
        }
    }

    private static void offenderBySurround() {
        for (int v = 0; v <= 7; v++) {
            VoteWatch outer = new VoteWatch();
            outer.vote(v, 4, 8);
            due("offender(" + v + ") before", outer.offender(v), 0);
            outer.vote(v, 0, 12);
            due("offender(" + v + ") by the outer one last", outer.offender(v), 1);
            VoteWatch inner = new VoteWatch();
            inner.vote(v, 0, 12);
            due("offender(" + v + ") before", inner.offender(v), 0);
            inner.vote(v, 4, 8);
            due("offender(" + v + ") by the inner one last", inner.offender(v), 1);
        }
    }

    private static void offenderByHeldVotesAlone() {
        VoteWatch x = full();
        x.vote(0, 0, 5);
        x.vote(1, 0, 126);
        x.vote(2, 3, 5);
        for (int v = 0; v <= 7; v++) {
            due("offender(" + v + ") by votes not held", x.offender(v), 0);
        }
        VoteWatch y = new VoteWatch();
        y.vote(0, 0, 8);
        y.vote(0, 8, 9);
        y.vote(0, 8, 8);
        y.vote(0, 7, 9);
        due("offender(0) by wrong votes", y.offender(0), 0);
        y.vote(0, 0, 9);
        y.vote(0, 8, 12);
        y.vote(0, 12, 16);
        y.stake(0, 0);
        due("offender(0) after harmless votes", y.offender(0), 1);
    }

    // Terms: support, justified, final

    // 3 * sum > 2 * (sum + rest) just when sum > 2 * rest.
    private static void greaterThanTwoThirds() {
        for (int voters = 1; voters <= 7; voters++) {
            for (int rest = 0; rest <= 100 * (8 - voters) && 2 * rest < 100 * voters; rest++) {
                if (rest > 0) {
                    dueSupported(voters, 2 * rest - 1, rest, 0);
                }
                dueSupported(voters, 2 * rest, rest, 0);
                dueSupported(voters, 2 * rest + 1, rest, 1);
            }
        }
    }

    private static void dueSupported(int voters, int sum, int rest, int want) {
        VoteWatch x = new VoteWatch();
        share(x, 0, voters - 1, sum);
        share(x, voters, 7, rest);
        votesOf(x, 0, voters - 1, 0, 4);
        String what = sum + " of " + (sum + rest) + " by " + voters;
        due("support(0, 4), " + what, x.support(0, 4), sum);
        due("justified(4), " + what, x.justified(4), want);
        due("isFinal(0), " + what, x.isFinal(0), want);
        due("highest, " + what, x.highest(), 4 * want);
        due("justifiedIn(1), " + what, x.justifiedIn(1), want);
    }

    private static void share(VoteWatch x, int from, int to, int sum) {
        int left = sum;
        for (int v = from; v <= to; v++) {
            int part = Math.min(100, left);
            x.stake(v, part);
            left -= part;
        }
    }

    private static void totalOfZero() {
        VoteWatch x = withStakes(0, 0, 0, 0, 0, 0, 0, 0);
        due("isFinal(0) without votes", x.isFinal(0), 0);
        votesOf(x, 0, 7, 0, 4);
        due("support(0, 4)", x.support(0, 4), 0);
        due("justified(4)", x.justified(4), 0);
        due("justified(0)", x.justified(0), 1);
        due("isFinal(0)", x.isFinal(0), 0);
        due("highest", x.highest(), 0);
        due("justifiedIn(1)", x.justifiedIn(1), 0);
        x.stake(7, 1);
        due("justified(4) at 1 of 1", x.justified(4), 1);
        due("isFinal(0) at 1 of 1", x.isFinal(0), 1);
    }

    private static void supportOfOnePair() {
        VoteWatch x = new VoteWatch();
        votesOf(x, 0, 7, 0, 4);
        votesOf(x, 0, 4, 0, 8);
        votesOf(x, 3, 7, 4, 8);
        votesOf(x, 0, 4, 0, 5);
        votesOf(x, 3, 7, 0, 6);
        due("justified(8) by five from 0 and five from 4", x.justified(8), 0);
        due("justified(5) by five of eight", x.justified(5), 0);
        due("justified(6) by five of eight", x.justified(6), 0);
        due("isFinal(4) by five of eight", x.isFinal(4), 0);
        x.vote(5, 0, 5);
        due("justified(5), offenders among its six", x.justified(5), 1);
        x.vote(2, 0, 6);
        due("justified(6), offenders among its six", x.justified(6), 1);
        x.vote(2, 4, 8);
        due("justified(8) by six from 4", x.justified(8), 1);
        VoteWatch y = new VoteWatch();
        votesOf(y, 0, 3, 0, 4);
        votesOf(y, 4, 7, 0, 5);
        due("isFinal(0) by two halves", y.isFinal(0), 0);
    }

    private static void zeroIsJustified() {
        due("justified(0), new", new VoteWatch().justified(0), 1);
        due("justified(0), full", full().justified(0), 1);
        VoteWatch x = withStakes(0, 0, 0, 0, 0, 0, 0, 0);
        due("justified(0), no stake", x.justified(0), 1);
        due("justifiedIn(0), no stake", x.justifiedIn(0), 1);
        for (int c = 1; c <= 2; c++) {
            VoteWatch y = soleStake();
            y.vote(0, c, 4);
            y.vote(0, 0, 5);
            due("justified(" + c + ")", y.justified(c), 0);
            due("isFinal(" + c + ")", y.isFinal(c), 0);
            due("justified(4) from " + c, y.justified(4), 0);
            due("justifiedIn(0)", y.justifiedIn(0), 1);
        }
    }

    private static void someJustifiedSource() {
        for (int good = 4; good <= 6; good++) {
            VoteWatch x = soleStake();
            x.vote(0, 4, 126);
            x.vote(0, 5, 126);
            x.vote(0, 6, 126);
            due("justified(126) from none", x.justified(126), 0);
            x.vote(0, 0, good);
            due("justified(126) from " + good, x.justified(126), 1);
            due("justifiedIn(1)", x.justifiedIn(1), 1);
        }
        VoteWatch y = soleStake();
        y.vote(0, 0, 4);
        y.vote(1, 4, 8);
        y.vote(0, 5, 8);
        due("justified(8): 4 without support, 5 without justification", y.justified(8), 0);
    }

    private static void chains() {
        for (int gap = 1; gap <= 32; gap++) {
            VoteWatch up = soleStake();
            VoteWatch down = soleStake();
            for (int i = 1; i <= 31; i++) {
                if (i != gap) {
                    up.vote(0, chain(i - 1), chain(i));
                }
                if (32 - i != gap) {
                    down.vote(0, chain(31 - i), chain(32 - i));
                }
            }
            for (int i = 0; i <= 31; i++) {
                String what = "justified(" + chain(i) + ") with a gap before epoch " + gap;
                due(what, up.justified(chain(i)), i < gap ? 1 : 0);
                due(what + ", last first", down.justified(chain(i)), i < gap ? 1 : 0);
            }
            due("highest with a gap before epoch " + gap, up.highest(), chain(gap - 1));
            due("the same, last first", down.highest(), chain(gap - 1));
        }
    }

    private static int chain(int epoch) {
        return epoch == 0 ? 0 : 4 * epoch + (epoch + 1) % 3;
    }

    private static void finalIsJustified() {
        for (int c : CHECKPOINTS) {
            if (c >= 4 && c < 124) {
                VoteWatch x = soleStake();
                x.vote(0, c, (c / 4 + 1) * 4);
                due("isFinal(" + c + "), not justified", x.isFinal(c), 0);
                x.vote(0, 0, c);
                due("isFinal(" + c + "), justified", x.isFinal(c), 1);
                x.stake(1, 100);
                due("isFinal(" + c + "), no more justified", x.isFinal(c), 0);
            }
        }
    }

    private static void finalBySomeTarget() {
        for (int first = 8; first <= 10; first++) {
            for (int second = 8; second <= 10; second++) {
                VoteWatch x = new VoteWatch();
                votesOf(x, 0, 7, 0, 4);
                votesOf(x, 0, 4, 4, first);
                votesOf(x, 3, 7, 4, second);
                String what = "isFinal(4) by " + first + " and " + second;
                due(what, x.isFinal(4), first == second ? 1 : 0);
                x.vote(2, 4, second);
                due(what + ", supported", x.isFinal(4), 1);
            }
        }
    }

    private static void finalByNextEpoch() {
        for (int c : CHECKPOINTS) {
            for (int d : CHECKPOINTS) {
                if (d / 4 > c / 4) {
                    VoteWatch x = soleStake();
                    x.vote(0, 0, c);
                    x.vote(0, c, d);
                    boolean want = (c == 0 || c >= 4) && d / 4 == c / 4 + 1;
                    due("isFinal(" + c + ") by " + d, x.isFinal(c), want ? 1 : 0);
                }
            }
        }
    }

    private static void lastEpoch() {
        for (int c = 124; c <= 126; c++) {
            VoteWatch x = soleStake();
            x.vote(0, 0, 120);
            x.vote(0, 120, c);
            due("vote from " + c + " to epoch 32", x.vote(0, c, 128), -1);
            due("justified(" + c + ")", x.justified(c), 1);
            due("isFinal(120)", x.isFinal(120), 1);
            due("isFinal(" + c + ")", x.isFinal(c), 0);
        }
    }

    // Promises 1 and 2

    private static void newStakes() {
        VoteWatch x = new VoteWatch();
        for (int v = 0; v <= 7; v++) {
            due("stake(" + v + ", 0)", x.stake(v, 0), 1);
        }
    }

    private static void newVotes() {
        VoteWatch x = new VoteWatch();
        for (int v = 0; v <= 7; v++) {
            due("votes(" + v + ")", x.votes(v), 0);
            due("offender(" + v + ")", x.offender(v), 0);
        }
        for (int c : CHECKPOINTS) {
            VoteWatch y = new VoteWatch();
            for (int d : CHECKPOINTS) {
                due("support(" + c + ", " + d + ")", y.support(c, d), 0);
            }
        }
        VoteWatch z = withStakes(100, 100, 100, 100, 100, 100, 100, 100);
        due("vote(0, 0, 4), the first", z.vote(0, 0, 4), 0);
        due("support(0, 4)", z.support(0, 4), 100);
        due("support(0, 5)", z.support(0, 5), 0);
    }

    private static void stakeTooSmall() {
        int[] small = {-1, -2, -50, -99, -100, -101, -128, -156, -255, -256, -32768, -65535,
            LEAST, LEAST + 1, LEAST + 50, LEAST + 100};
        for (int stake : small) {
            dueKept(stake, 0);
        }
        dueKept(0, 0);
        dueKept(1, 1);
    }

    private static void stakeTooLarge() {
        int[] large = {101, 102, 127, 128, 150, 200, 255, 256, 257, 306, 32768, 65536, 65586,
            MOST, MOST - 1, MOST - 50, 1 << 30};
        for (int stake : large) {
            dueKept(stake, 100);
        }
        dueKept(100, 100);
        dueKept(99, 99);
    }

    private static void dueKept(int stake, int kept) {
        for (int v = 0; v <= 7; v++) {
            VoteWatch x = new VoteWatch();
            x.vote(v, 0, 4);
            due("stake(" + v + ", " + stake + ")", x.stake(v, stake), 1);
            due("support after it", x.support(0, 4), kept);
            due("stake(" + v + ", 7) after it", x.stake(v, 7), kept);
            due("stake(" + v + ", 8) after that", x.stake(v, 8), 7);
        }
    }

    private static void stakeBefore() {
        VoteWatch x = new VoteWatch();
        for (int round = 0; round < 4; round++) {
            for (int v = 0; v <= 7; v++) {
                int before = round == 0 ? 1 : 10 * v + round - 1;
                due("stake(" + v + ") in round " + round, x.stake(v, 10 * v + round), before);
            }
        }
        due("the same stake again", x.stake(7, 73), 73);
        due("and again", x.stake(7, 73), 73);
    }

    private static void stakeOfNone() {
        dueEach("stake(n, 9)", NOT_VALIDATORS, n -> new VoteWatch().stake(n, 9), -1);
        sameState("after stakes of none", BoundaryTest::mixed, () -> {
            VoteWatch x = mixed();
            for (int i = 0; i < NOT_VALIDATORS.length && i < 100; i++) {
                x.stake(NOT_VALIDATORS[i], 77);
            }
            return x;
        });
    }

    // Promise 3

    private static void everyVoteIsHeld() {
        int turn = 0;
        for (int c : CHECKPOINTS) {
            for (int d : CHECKPOINTS) {
                if (d / 4 > c / 4) {
                    int v = turn++ % 8;
                    VoteWatch x = new VoteWatch();
                    String what = "vote(" + v + ", " + c + ", " + d + ")";
                    due(what, x.vote(v, c, d), 0);
                    due("votes after " + what, x.votes(v), 1);
                    due("support after " + what, x.support(c, d), 1);
                    due("again " + what, x.vote(v, c, d), -2);
                }
            }
        }
    }

    private static void voteOfNone() {
        dueEach("vote(n, 0, 4)", NOT_VALIDATORS, n -> new VoteWatch().vote(n, 0, 4), -1);
        dueEach("vote(n, 0, 4), mixed", NOT_VALIDATORS, n -> mixed().vote(n, 0, 4), -1);
    }

    private static void voteFromNone() {
        dueEach("vote(0, n, 126)", NOT_CHECKPOINTS, n -> new VoteWatch().vote(0, n, 126), -1);
        dueEach("vote(7, n, 4)", NOT_CHECKPOINTS, n -> new VoteWatch().vote(7, n, 4), -1);
        dueEach("vote(0, n, n)", NOT_CHECKPOINTS, n -> new VoteWatch().vote(0, n, n), -1);
        dueEach("vote(0, n, n + 4)", NOT_CHECKPOINTS, n -> new VoteWatch().vote(0, n, n + 4), -1);
    }

    private static void voteToNone() {
        dueEach("vote(0, 0, n)", NOT_CHECKPOINTS, n -> new VoteWatch().vote(0, 0, n), -1);
        dueEach("vote(7, 122, n)", NOT_CHECKPOINTS, n -> new VoteWatch().vote(7, 122, n), -1);
        dueEach("vote(0, n - 4, n)", NOT_CHECKPOINTS, n -> new VoteWatch().vote(0, n - 4, n), -1);
    }

    private static void from0To126() {
        dueVote(0, 4, 0);
        dueVote(-1, 4, -1);
        dueVote(-2, 4, -1);
        dueVote(-4, 0, -1);
        dueVote(0, 126, 0);
        dueVote(122, 126, 0);
        dueVote(0, 127, -1);
        dueVote(0, 128, -1);
        dueVote(126, 128, -1);
        dueVote(128, 132, -1);
    }

    private static void multipleOf4Plus3() {
        for (int epoch = 0; epoch <= 31; epoch++) {
            for (int b = 0; b <= 3; b++) {
                if (epoch < 31) {
                    dueVote(4 * epoch + b, 124, b == 3 ? -1 : 0);
                    dueVote(4 * epoch + b, 127, -1);
                }
                if (epoch > 0) {
                    dueVote(0, 4 * epoch + b, b == 3 ? -1 : 0);
                    dueVote(3, 4 * epoch + b, -1);
                }
            }
        }
    }

    private static void voteNotLater() {
        for (int c : CHECKPOINTS) {
            for (int d : CHECKPOINTS) {
                dueVote(c, d, d / 4 > c / 4 ? 0 : -1);
            }
        }
    }

    private static final int[][] WRONG_VOTES = {
        {-1, 0, 12}, {8, 0, 12}, {LEAST, 0, 12}, {MOST, 0, 12}, {16, 4, 8}, {-8, 4, 8},
        {0, -1, 12}, {0, 3, 12}, {0, 7, 12}, {0, 127, 12}, {0, 128, 12}, {0, LEAST, 12},
        {0, 0, -1}, {0, 0, 3}, {0, 0, 7}, {0, 0, 127}, {0, 0, 128}, {0, 0, 132}, {0, 0, MOST},
        {0, 0, 0}, {0, 0, 1}, {0, 0, 2}, {0, 12, 13}, {0, 12, 12}, {0, 12, 8}, {0, 126, 124},
        {0, 126, 0}, {7, 124, 126}, {7, MOST, LEAST}, {7, LEAST, MOST}, {-1, -1, -1}
    };

    private static void wrongVotesChangeNothing() {
        List<Supplier<VoteWatch>> starts = List.of(
            VoteWatch::new, BoundaryTest::mixed, BoundaryTest::full);
        for (Supplier<VoteWatch> start : starts) {
            sameState("after wrong votes", start, () -> {
                VoteWatch x = start.get();
                for (int[] w : WRONG_VOTES) {
                    due("vote(" + w[0] + ", " + w[1] + ", " + w[2] + ")",
                        x.vote(w[0], w[1], w[2]), -1);
                }
                return x;
            });
        }
    }

    private static void voteHeldAlready() {
        for (int held = 1; held <= 63; held++) {
            VoteWatch x = new VoteWatch();
            for (int i = 0; i < held; i++) {
                voteNumber(x, i % 8, i);
            }
            for (int i = 0; i < held; i++) {
                due("vote " + i + " again with " + held, voteNumber(x, i % 8, i), -2);
            }
            due("another one with " + held, Math.min(0, voteNumber(x, 0, held + 1)), 0);
        }
    }

    private static void voteWhenFull() {
        int[][] news = {{0, 32, 36}, {0, 0, 5}, {0, 0, 126}, {7, 122, 126}, {3, 1, 4}, {5, 2, 124}};
        for (int[] vote : news) {
            VoteWatch x = full();
            String what = "vote(" + vote[0] + ", " + vote[1] + ", " + vote[2] + ")";
            due(what + " when full", x.vote(vote[0], vote[1], vote[2]), -2);
            due(what + " when full, again", x.vote(vote[0], vote[1], vote[2]), -2);
            x.stake(0, 0);
            due(what + " when full, after a stake", x.vote(vote[0], vote[1], vote[2]), -2);
            due(what + " with one place left", Math.min(0,
                after511().vote(vote[0], vote[1], vote[2])), 0);
        }
        VoteWatch alone = new VoteWatch();
        for (int i = 0; i < 64; i++) {
            voteNumber(alone, 3, i);
        }
        for (int v = 0; v <= 7; v++) {
            due("first vote of " + v + " when full", alone.vote(v, 2, 100), -2);
        }
    }

    private static void refusedVotesChangeNothing() {
        sameState("after votes beyond 64", BoundaryTest::full, () -> {
            VoteWatch x = full();
            for (int v = 0; v <= 7; v++) {
                due("double of " + v, x.vote(v, 0, 5), -2);
                due("outer of " + v, x.vote(v, 0, 126), -2);
                due("harmless of " + v, x.vote(v, 32, 36), -2);
                due("held of " + v, x.vote(v, 0, 4), -2);
            }
            return x;
        });
        sameState("after votes held already", BoundaryTest::mixed, () -> {
            VoteWatch x = mixed();
            for (int round = 0; round < 2; round++) {
                for (int v = 0; v <= 5; v++) {
                    due("(0, 4) of " + v, x.vote(v, 0, 4), -2);
                    due("(4, 8) of " + v, x.vote(v, 4, 8), -2);
                }
            }
            return x;
        });
    }

    private static void wrongBeforeRefused() {
        VoteWatch x = full();
        due("a held vote", x.vote(0, 0, 4), -2);
        for (int[] w : WRONG_VOTES) {
            due("vote(" + w[0] + ", " + w[1] + ", " + w[2] + ") when full",
                x.vote(w[0], w[1], w[2]), -1);
        }
        dueEach("vote(n, 0, 4) when full", NOT_VALIDATORS, n -> full().vote(n, 0, 4), -1);
        dueEach("vote(0, n, 36) when full", NOT_CHECKPOINTS, n -> full().vote(0, n, 36), -1);
        dueEach("vote(0, 0, n) when full", NOT_CHECKPOINTS, n -> full().vote(0, 0, n), -1);
    }

    // The new vote is (8, 20), from epoch 2 to epoch 5.
    private static void sumOfOffences() {
        int[][] before = {{0, 20}, {12, 16}, {4, 24}};
        for (int set = 0; set <= 7; set++) {
            VoteWatch up = new VoteWatch();
            VoteWatch down = new VoteWatch();
            for (int i = 0; i <= 2; i++) {
                if ((set >> i & 1) == 1) {
                    up.vote(2, before[i][0], before[i][1]);
                }
                if ((set >> 2 - i & 1) == 1) {
                    down.vote(2, before[2 - i][0], before[2 - i][1]);
                }
            }
            due("vote(2, 8, 20) after set " + set, up.vote(2, 8, 20), set);
            due("the same, last first", down.vote(2, 8, 20), set);
        }
    }

    private static void eachOffenceOnce() {
        int[][][] before = {
            {{0, 20}, {1, 21}, {8, 22}, {16, 20}},
            {{12, 16}, {13, 17}, {14, 18}, {13, 16}},
            {{4, 24}, {0, 28}, {6, 126}, {1, 25}}
        };
        for (int set = 0; set <= 7; set++) {
            VoteWatch x = new VoteWatch();
            for (int i = 0; i < 12; i++) {
                if ((set >> i % 3 & 1) == 1) {
                    x.vote(2, before[i % 3][i / 3][0], before[i % 3][i / 3][1]);
                }
            }
            due("vote(2, 8, 20) after four of each of set " + set, x.vote(2, 8, 20), set);
        }
    }

    // The place among the held votes must not matter to the 64th, which meets it.
    private static void firstAgainstLast() {
        for (int place = 0; place < 63; place++) {
            due64th(place, 12, 16, 12, 17, 1);
            due64th(place, 12, 16, 8, 20, 2);
            due64th(place, 12, 16, 12, 20, 0);
            due64th(place, 8, 20, 12, 16, 4);
        }
    }

    private static void due64th(int place, int source1, int target1, int source2, int target2,
            int want) {
        VoteWatch x = new VoteWatch();
        for (int i = 0; i < 63; i++) {
            if (i == place) {
                due("the vote at " + place, x.vote(7, source1, target1), 0);
            } else {
                voteNumber(x, i % 7, i);
            }
        }
        due("the 64th vote against place " + place, x.vote(7, source2, target2), want);
        due("offender(7) after it", x.offender(7), want == 0 ? 0 : 1);
        due("votes(7) after it", x.votes(7), 2);
    }

    // Promises 4 to 7

    private static void offenderOrNot() {
        for (int v = 0; v <= 7; v++) {
            VoteWatch x = new VoteWatch();
            votesOf(x, 0, 7, 0, 4);
            x.vote(v, 0, 6);
            for (int w = 0; w <= 7; w++) {
                due("offender(" + w + ") with " + v, x.offender(w), w == v ? 1 : 0);
            }
        }
    }

    private static void offenderOfNone() {
        dueEach("offender(n)", NOT_VALIDATORS, n -> new VoteWatch().offender(n), -1);
        dueEach("offender(n), mixed", NOT_VALIDATORS, n -> mixed().offender(n), -1);
    }

    private static void offendedByNone() {
        due("offended, new", new VoteWatch().offended(), 0);
        due("offended, full", full().offended(), 0);
        VoteWatch x = withStakes(100, 100, 100, 100, 100, 100, 100, 100);
        votesOf(x, 0, 7, 0, 4);
        votesOf(x, 0, 7, 0, 4);
        due("offended by votes held already", x.offended(), 0);
    }

    private static void offendedByAll() {
        VoteWatch x = withStakes(100, 100, 100, 100, 100, 100, 100, 100);
        votesOf(x, 0, 7, 0, 4);
        for (int v = 0; v <= 7; v++) {
            x.vote(v, 0, 5);
            due("offended by 0 to " + v, x.offended(), 100 * (v + 1));
        }
        votesOf(x, 0, 7, 0, 6);
        due("offended by all twice", x.offended(), 800);
        for (int v = 0; v <= 7; v++) {
            VoteWatch y = withStakes(1, 2, 4, 8, 16, 32, 64, 100);
            y.vote(v, 4, 8);
            y.vote(v, 0, 12);
            due("offended by " + v, y.offended(), v == 7 ? 100 : 1 << v);
        }
    }

    private static void offendedOfTheMoment() {
        VoteWatch x = new VoteWatch();
        x.vote(0, 0, 4);
        x.vote(0, 0, 5);
        x.stake(0, 0);
        due("offended with a stake of 0", x.offended(), 0);
        x.stake(0, 101);
        due("offended with a stake of 100", x.offended(), 100);
        x.stake(1, 100);
        due("offended with another's stake", x.offended(), 100);
        x.stake(0, -1);
        due("offended with a stake below 0", x.offended(), 0);
    }

    private static void justifiedOrNot() {
        for (int c : CHECKPOINTS) {
            VoteWatch x = new VoteWatch();
            due("justified(" + c + "), new", x.justified(c), c == 0 ? 1 : 0);
            votesOf(x, 0, 4, 0, c);
            due("justified(" + c + ") by five", x.justified(c), c == 0 ? 1 : 0);
            x.vote(5, 0, c);
            due("justified(" + c + ") by six", x.justified(c), c == 1 || c == 2 ? 0 : 1);
        }
    }

    private static void justifiedOfNone() {
        dueEach("justified(n)", NOT_CHECKPOINTS, n -> new VoteWatch().justified(n), -1);
        dueEach("justified(n), mixed", NOT_CHECKPOINTS, n -> mixed().justified(n), -1);
    }

    private static void finalOrNot() {
        for (int c : CHECKPOINTS) {
            if (c < 124) {
                VoteWatch x = new VoteWatch();
                int next = (c / 4 + 1) * 4 + c % 3;
                boolean can = c == 0 || c >= 4;
                votesOf(x, 0, 7, 0, c);
                due("isFinal(" + c + "), no vote from it", x.isFinal(c), 0);
                votesOf(x, 0, 4, c, next);
                due("isFinal(" + c + ") by five", x.isFinal(c), 0);
                x.vote(7, c, next);
                due("isFinal(" + c + ") by six", x.isFinal(c), can ? 1 : 0);
            }
        }
    }

    private static void finalOfNone() {
        dueEach("isFinal(n)", NOT_CHECKPOINTS, n -> new VoteWatch().isFinal(n), -1);
        dueEach("isFinal(n), mixed", NOT_CHECKPOINTS, n -> mixed().isFinal(n), -1);
    }

    // Promises 8 to 11

    private static void highestOfNone() {
        VoteWatch x = new VoteWatch();
        due("highest, new", x.highest(), 0);
        votesOf(x, 0, 4, 0, 126);
        due("highest, 126 by five", x.highest(), 0);
        votesOf(x, 0, 7, 4, 124);
        votesOf(x, 0, 7, 2, 4);
        due("highest, 124 from 4 from 2", x.highest(), 0);
    }

    private static void highestByNumber() {
        for (int c : CHECKPOINTS) {
            for (int d : CHECKPOINTS) {
                if (c >= 4 && d >= 4) {
                    VoteWatch x = soleStake();
                    x.vote(0, 0, c);
                    due("highest with " + c, x.highest(), c);
                    x.vote(0, 0, d);
                    due("highest with " + c + ", then " + d, x.highest(), Math.max(c, d));
                }
            }
        }
        VoteWatch y = soleStake();
        y.vote(0, 0, 126);
        y.stake(1, 100);
        due("highest after 126 lost its support", y.highest(), 0);
    }

    private static void howManyInEpoch() {
        int[][] orders = {{0, 1, 2}, {0, 2, 1}, {1, 0, 2}, {1, 2, 0}, {2, 0, 1}, {2, 1, 0}};
        for (int epoch = 1; epoch <= 31; epoch++) {
            for (int[] order : orders) {
                VoteWatch x = soleStake();
                due("justifiedIn(" + epoch + ") at first", x.justifiedIn(epoch), 0);
                for (int i = 0; i <= 2; i++) {
                    x.vote(0, 0, 4 * epoch + order[i]);
                    due("justifiedIn(" + epoch + ")", x.justifiedIn(epoch), i + 1);
                }
                due("justifiedIn(0)", x.justifiedIn(0), 1);
                due("justifiedIn before " + epoch, x.justifiedIn(epoch - 1), epoch == 1 ? 1 : 0);
                due("justifiedIn after " + epoch, x.justifiedIn(epoch + 1), epoch == 31 ? -1 : 0);
            }
        }
    }

    private static void justifiedInNone() {
        dueEach("justifiedIn(n)", NOT_EPOCHS, n -> new VoteWatch().justifiedIn(n), -1);
        dueEach("justifiedIn(n), mixed", NOT_EPOCHS, n -> mixed().justifiedIn(n), -1);
        // Four times these wraps around to the number of a checkpoint.
        int[] wrapping = {1 << 30, -1 << 30, (1 << 30) + 1, LEAST, LEAST + 1, (3 << 30) + 2};
        dueEach("justifiedIn(n), wrapping", wrapping, n -> mixed().justifiedIn(n), -1);
    }

    private static void leastAndMostSupport() {
        VoteWatch x = withStakes(100, 100, 100, 100, 100, 100, 100, 100);
        due("support(122, 126) by none", x.support(122, 126), 0);
        for (int v = 0; v <= 7; v++) {
            x.vote(v, 122, 126);
            due("support(122, 126) by 0 to " + v, x.support(122, 126), 100 * (v + 1));
        }
        for (int v = 0; v <= 7; v++) {
            x.stake(v, 0);
            due("support(122, 126) without 0 to " + v, x.support(122, 126), 700 - 100 * v);
        }
    }

    private static void supportOfThePairAlone() {
        int[][] pairs = {{0, 4}, {0, 126}, {122, 126}, {2, 4}, {61, 64}, {118, 122}};
        for (int[] pair : pairs) {
            for (int c : CHECKPOINTS) {
                VoteWatch x = withStakes(1, 2, 4, 8, 16, 32, 64, 100);
                x.vote(3, pair[0], pair[1]);
                x.vote(7, pair[0], pair[1]);
                for (int d : CHECKPOINTS) {
                    due("support(" + c + ", " + d + ") with (" + pair[0] + ", " + pair[1] + ")",
                        x.support(c, d), c == pair[0] && d == pair[1] ? 108 : 0);
                }
            }
        }
    }

    private static void supportOfNone() {
        dueEach("support(n, 4)", NOT_CHECKPOINTS, n -> mixed().support(n, 4), 0);
        dueEach("support(n, 8)", NOT_CHECKPOINTS, n -> mixed().support(n, 8), 0);
        dueEach("support(0, n)", NOT_CHECKPOINTS, n -> mixed().support(0, n), 0);
        dueEach("support(4, n)", NOT_CHECKPOINTS, n -> mixed().support(4, n), 0);
        dueEach("support(n, n)", NOT_CHECKPOINTS, n -> mixed().support(n, n), 0);
        // Pairs that a number made of both would take for (0, 4), (4, 8) or (0, 126).
        int[][] pairs = {{0, 4}, {4, 8}, {0, 126}};
        int[] widths = {4, 32, 96, 97, 100, 126, 127, 128, 256, 1000, 1024, 65536};
        for (int[] pair : pairs) {
            for (int width : widths) {
                for (int step = -4; step <= 4; step++) {
                    dueNoSupport(pair[0] + step, pair[1] - step * width);
                    dueNoSupport(pair[0] - step * width, pair[1] + step);
                }
            }
        }
    }

    private static void dueNoSupport(int source, int target) {
        if (!isCheckpoint(source) || !isCheckpoint(target)) {
            due("support(" + source + ", " + target + ")", mixed().support(source, target), 0);
        }
    }

    private static void votesFrom0To64() {
        for (int v = 0; v <= 7; v++) {
            VoteWatch x = new VoteWatch();
            due("votes(" + v + "), new", x.votes(v), 0);
            for (int i = 0; i < 70; i++) {
                voteNumber(x, v, i);
                due("votes(" + v + ") after " + (i + 1), x.votes(v), Math.min(64, i + 1));
            }
            for (int w = 0; w <= 7; w++) {
                due("votes(" + w + ") with 64 of " + v, x.votes(w), w == v ? 64 : 0);
            }
        }
    }

    private static void votesOfNone() {
        dueEach("votes(n)", NOT_VALIDATORS, n -> new VoteWatch().votes(n), -1);
        dueEach("votes(n), mixed", NOT_VALIDATORS, n -> mixed().votes(n), -1);
    }

    // Objects to begin with

    private static VoteWatch withStakes(int... stakes) {
        VoteWatch x = new VoteWatch();
        for (int v = 0; v <= 7; v++) {
            x.stake(v, stakes[v]);
        }
        return x;
    }

    // Each vote of validator 0 alone gives its pair support here.
    private static VoteWatch soleStake() {
        return withStakes(1, 0, 0, 0, 0, 0, 0, 0);
    }

    private static void votesOf(VoteWatch x, int from, int to, int source, int target) {
        for (int v = from; v <= to; v++) {
            x.vote(v, source, target);
        }
    }

    // Eight votes of each validator, from each epoch to the next, no offence.
    private static VoteWatch full() {
        VoteWatch x = new VoteWatch();
        for (int i = 0; i < 64; i++) {
            x.vote(i % 8, i / 8 * 4, i / 8 * 4 + 4);
        }
        return x;
    }

    // 0, 4, 8 and 126 are justified, 0 and 4 are final, 6 and 7 are offenders.
    private static VoteWatch mixed() {
        VoteWatch x = withStakes(10, 11, 12, 13, 14, 15, 5, 0);
        votesOf(x, 0, 5, 0, 4);
        votesOf(x, 0, 5, 4, 8);
        votesOf(x, 0, 5, 8, 126);
        votesOf(x, 0, 5, 5, 12);
        votesOf(x, 6, 7, 0, 122);
        x.vote(6, 4, 8);
        x.vote(7, 0, 124);
        x.vote(7, 0, 125);
        return x;
    }

    // Numbers to ask with

    private static boolean isCheckpoint(int number) {
        for (int c : CHECKPOINTS) {
            if (c == number) {
                return true;
            }
        }
        return false;
    }

    private static int[] checkpoints() {
        int[] all = new int[96];
        for (int i = 0; i < 96; i++) {
            all[i] = 4 * (i / 3) + i % 3;
        }
        return all;
    }

    private static int[] notCheckpoints() {
        List<Integer> found = new ArrayList<>();
        for (int n : outside(0, 126)) {
            found.add(n);
        }
        for (int epoch = 0; epoch < 31; epoch++) {
            found.add(4 * epoch + 3);
        }
        return array(found);
    }

    // Just below, just above, far away, and those that a mask or a cast would let in.
    private static int[] outside(int least, int most) {
        List<Integer> found = new ArrayList<>();
        for (int step = 1; step <= 20; step++) {
            found.add(least - step);
            found.add(most + step);
            found.add(LEAST + step - 1);
            found.add(MOST - step + 1);
        }
        for (int bit = 3; bit <= 31; bit++) {
            for (int n : new int[] {least, least + 4, most - 2, most}) {
                for (int moved : new int[] {n + (1 << bit), n - (1 << bit), ~n}) {
                    if (moved < least || moved > most) {
                        found.add(moved);
                    }
                }
            }
        }
        return array(found);
    }

    private static int[] array(List<Integer> numbers) {
        return numbers.stream().mapToInt(Integer::intValue).distinct().toArray();
    }

    // How a test is told

    private static void test(String words, Runnable body) {
        sentence = words;
        wrongInTest = 0;
        tests++;
        try {
            body.run();
        } catch (RuntimeException thrown) {
            fault("a call threw " + thrown);
        }
    }

    private static void due(String what, int got, int want) {
        if (got != want) {
            fault(what + " answered " + got + ", due is " + want);
        }
    }

    private static void dueEach(String what, int[] numbers, IntUnaryOperator call, int want) {
        for (int n : numbers) {
            int got = call.applyAsInt(n);
            if (got != want) {
                fault(what + " with n = " + n + " answered " + got + ", due is " + want);
            }
        }
    }

    private static void fault(String what) {
        wrong++;
        wrongInTest++;
        if (wrongInTest <= 5) {
            System.out.println("[" + sentence + "] " + what);
        }
    }

    // Two ways to the same state must answer every later call alike.
    private static void sameState(String what, Supplier<VoteWatch> one, Supplier<VoteWatch> other) {
        List<Integer> due = answers(one);
        List<Integer> got = answers(other);
        for (int i = 0; i < due.size(); i++) {
            due(what + ": answer " + i + " of the state", got.get(i), due.get(i));
        }
    }

    private static List<Integer> answers(Supplier<VoteWatch> start) {
        List<Integer> found = new ArrayList<>();
        VoteWatch x = start.get();
        found.add(x.offended());
        found.add(x.highest());
        for (int v = 0; v <= 7; v++) {
            found.add(x.offender(v));
            found.add(x.votes(v));
        }
        for (int c : CHECKPOINTS) {
            found.add(x.justified(c));
            found.add(x.isFinal(c));
        }
        for (int c : CHECKPOINTS) {
            VoteWatch y = start.get();
            for (int d : CHECKPOINTS) {
                found.add(y.support(c, d));
            }
        }
        addChanges(found, start);
        return found;
    }

    private static void addChanges(List<Integer> found, Supplier<VoteWatch> start) {
        VoteWatch x = start.get();
        VoteWatch y = start.get();
        for (int v = 0; v <= 7; v++) {
            found.add(x.stake(v, 0));
        }
        for (int i = 0; i < 160; i++) {
            found.add(y.vote(i % 8, i / 31, 4 + i % 31 * 4));
        }
    }
}
