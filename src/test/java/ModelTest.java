import java.util.ArrayList;
import java.util.List;
import java.util.Map;
import java.util.Random;
import java.util.Set;
import java.util.TreeMap;
import java.util.TreeSet;

// Long runs of calls, the same ones each time, against a second writing of the
// document that follows its sentences and keeps nothing but stakes and votes.
public final class ModelTest {
    private static final int RUNS = 3000;
    private static final int CALLS = 512;

    private record Vote(int validator, int source, int target) {
        int from() {
            return source / 4;
        }

        int to() {
            return target / 4;
        }

        boolean doubles(Vote other) {
            return validator == other.validator && !equals(other) && to() == other.to();
        }

        boolean surrounds(Vote other) {
            return validator == other.validator && from() < other.from() && to() > other.to();
        }
    }

    private static final class Model {
        private final int[] stakes = {1, 1, 1, 1, 1, 1, 1, 1};
        private final List<Vote> held = new ArrayList<>();

        static boolean validator(int v) {
            return 0 <= v && v <= 7;
        }

        static boolean checkpoint(int c) {
            return 0 <= c && c <= 126 && (c - 3) % 4 != 0;
        }

        int stake(int v, int stake) {
            if (!validator(v)) {
                return -1;
            }
            int before = stakes[v];
            stakes[v] = Math.min(100, Math.max(0, stake));
            return before;
        }

        int vote(int v, int source, int target) {
            Vote vote = new Vote(v, source, target);
            if (!validator(v) || !checkpoint(source) || !checkpoint(target)
                || vote.to() <= vote.from()) {
                return -1;
            }
            if (held.contains(vote) || held.size() == 64) {
                return -2;
            }
            int answer = (held.stream().anyMatch(vote::doubles) ? 1 : 0)
                + (held.stream().anyMatch(vote::surrounds) ? 2 : 0)
                + (held.stream().anyMatch(other -> other.surrounds(vote)) ? 4 : 0);
            held.add(vote);
            return answer;
        }

        int offender(int v) {
            if (!validator(v)) {
                return -1;
            }
            return held.stream().filter(a -> a.validator == v).anyMatch(a ->
                held.stream().anyMatch(b -> a.doubles(b) || a.surrounds(b))) ? 1 : 0;
        }

        int offended() {
            int sum = 0;
            for (int v = 0; v < 8; v++) {
                sum += offender(v) == 1 ? stakes[v] : 0;
            }
            return sum;
        }

        int support(int source, int target) {
            int sum = 0;
            for (int v = 0; v < 8; v++) {
                sum += held.contains(new Vote(v, source, target)) ? stakes[v] : 0;
            }
            return sum;
        }

        boolean supported(int source, int target) {
            int total = 0;
            for (int stake : stakes) {
                total += stake;
            }
            return 3 * support(source, target) > 2 * total;
        }

        Set<Integer> justifiedOnes() {
            TreeSet<Integer> found = new TreeSet<>(Set.of(0));
            boolean more = true;
            while (more) {
                more = false;
                for (Vote vote : held) {
                    if (found.contains(vote.source) && !found.contains(vote.target)
                        && supported(vote.source, vote.target)) {
                        found.add(vote.target);
                        more = true;
                    }
                }
            }
            return found;
        }

        int justified(int c) {
            if (!checkpoint(c)) {
                return -1;
            }
            return justifiedOnes().contains(c) ? 1 : 0;
        }

        int isFinal(int c) {
            if (!checkpoint(c)) {
                return -1;
            }
            boolean next = false;
            for (int d = 0; d <= 126; d++) {
                next |= checkpoint(d) && d / 4 == c / 4 + 1 && supported(c, d);
            }
            return next && justifiedOnes().contains(c) ? 1 : 0;
        }

        int highest() {
            return justifiedOnes().stream().max(Integer::compare).get();
        }

        int justifiedIn(int epoch) {
            if (epoch < 0 || epoch > 31) {
                return -1;
            }
            return (int) justifiedOnes().stream().filter(c -> c / 4 == epoch).count();
        }

        int votes(int v) {
            if (!validator(v)) {
                return -1;
            }
            return (int) held.stream().filter(vote -> vote.validator == v).count();
        }
    }

    private static final Map<String, Set<Integer>> answers = new TreeMap<>();
    private static int wrong = 0;

    private final Random random;
    private final VoteWatch x = new VoteWatch();
    private final Model model = new Model();
    private final int run;
    private final int lowest;
    private final int epochs;
    private int source = 0;
    private int target = 4;

    private ModelTest(int run) {
        this.run = run;
        random = new Random(run);
        epochs = 2 + random.nextInt(run % 3 == 0 ? 31 : 6);
        lowest = run % 5 == 0 ? 32 - Math.min(epochs, 32) : 0;
    }

    public static void main(String[] args) {
        for (int run = 0; run < RUNS && wrong == 0; run++) {
            ModelTest test = new ModelTest(run);
            for (int call = 0; call < CALLS && wrong == 0; call++) {
                test.call();
            }
        }
        met("vote", -2, -1, 0, 1, 2, 3, 4, 5, 6, 7);
        met("stake", -1, 0, 1, 100);
        met("offender", -1, 0, 1);
        met("justified", -1, 0, 1);
        met("isFinal", -1, 0, 1);
        met("justifiedIn", -1, 0, 1, 2, 3);
        met("highest", 0, 4, 126);
        met("votes", -1, 0, 1, 10);
        System.out.println(wrong == 0 ? "the runs agree with the model" : "the runs differ");
        if (wrong != 0) {
            System.exit(1);
        }
    }

    // Runs that never meet an answer would not show that it is right.
    private static void met(String method, int... due) {
        for (int answer : due) {
            if (!answers.getOrDefault(method, Set.of()).contains(answer)) {
                wrong++;
                System.out.println("no run met " + method + " answering " + answer);
            }
        }
    }

    private void due(String method, String with, int got, int want) {
        answers.computeIfAbsent(method, name -> new TreeSet<>()).add(want);
        if (got != want) {
            wrong++;
            System.out.println("run " + run + ": " + method + with + " answered " + got
                + ", due is " + want + " with votes " + model.held);
        }
    }

    private int validator() {
        return random.nextInt(40) == 0 ? oddNumber() : random.nextInt(8);
    }

    private int oddNumber() {
        int[] odd = {-1, 8, 127, 128, 3, -4, Integer.MIN_VALUE, Integer.MAX_VALUE};
        return odd[random.nextInt(odd.length)];
    }

    private int checkpoint() {
        if (random.nextInt(40) == 0) {
            return oddNumber();
        }
        if (random.nextInt(4) == 0) {
            return random.nextBoolean() ? 0 : model.highest();
        }
        int epoch = Math.min(31, lowest + random.nextInt(epochs));
        return 4 * epoch + random.nextInt(random.nextInt(10) == 0 ? 4 : 3);
    }

    private void call() {
        int kind = random.nextInt(100);
        if (kind < 40) {
            callVote();
        } else if (kind < 48) {
            callStake();
        } else {
            callQuestion(kind % 8);
        }
    }

    // Most votes keep to one pair for a while, else no pair would get support.
    private void callVote() {
        if (random.nextInt(6) == 0) {
            source = checkpoint();
            target = checkpoint();
        }
        int v = validator();
        String with = "(" + v + ", " + source + ", " + target + ")";
        due("vote", with, x.vote(v, source, target), model.vote(v, source, target));
    }

    private void callStake() {
        int[] stakes = {-1, 0, 0, 1, 1, 2, 3, 99, 100, 101, Integer.MIN_VALUE, Integer.MAX_VALUE};
        int v = validator();
        int stake = stakes[random.nextInt(stakes.length)];
        due("stake", "(" + v + ", " + stake + ")", x.stake(v, stake), model.stake(v, stake));
    }

    private void callQuestion(int which) {
        int v = validator();
        int c = checkpoint();
        int d = checkpoint();
        int epoch = random.nextInt(35) - 1;
        switch (which) {
            case 0 -> due("offender", "(" + v + ")", x.offender(v), model.offender(v));
            case 1 -> due("offended", "()", x.offended(), model.offended());
            case 2 -> due("justified", "(" + c + ")", x.justified(c), model.justified(c));
            case 3 -> due("isFinal", "(" + c + ")", x.isFinal(c), model.isFinal(c));
            case 4 -> due("highest", "()", x.highest(), model.highest());
            case 5 -> {
                int e = random.nextBoolean() ? c >> 2 : epoch;
                due("justifiedIn", "(" + e + ")", x.justifiedIn(e), model.justifiedIn(e));
            }
            case 6 -> due("support", "(" + c + ", " + d + ")", x.support(c, d), model.support(c, d));
            default -> due("votes", "(" + v + ")", x.votes(v), model.votes(v));
        }
    }
}
