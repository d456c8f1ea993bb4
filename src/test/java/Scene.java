import java.util.ArrayList;
import java.util.List;

/**
 * One sentence of the document, and the calls that lead up to the case that it names. Each question
 * is put to a club of its own, made anew by these calls: so no question disturbs another one, and no
 * club is used for more calls than the document promises.
 */
final class Scene {
    private static final int MOST_CALLS = 512;

    private final String sentence;
    private final Check check;
    private final List<Step> steps = new ArrayList<>();
    private List<List<Step>> looks;
    private List<long[]> seen;

    Scene(String sentence, Check check) {
        this.sentence = sentence;
        this.check = check;
    }

    /** Goes on by these calls, which must not be refused. */
    Scene with(Step... more) {
        for (Step step : more) {
            takes(step);
            keep(step);
        }
        return this;
    }

    /** Goes on by this call, which must answer so. */
    Scene then(long want, Step step) {
        answers(want, step);
        keep(step);
        return this;
    }

    /** Games in which the loser, who is told first, resigns. */
    Scene lost(int loser, int winner, int games) {
        for (int i = 0; i < games; i++) {
            lostBy(loser, loser, winner);
        }
        return this;
    }

    /** A game of both in which the loser, one of them, resigns. */
    Scene lostBy(int loser, int first, int second) {
        Step begin = Steps.game(first, second, 3600, 5, 60);
        int number = (int) outcome(begin);
        with(begin);
        long pairing = outcome(Steps.handicap(number));
        boolean loserIsBlack = pairing / 100 == loser;
        boolean blackMoves = pairing % 10 < 2;
        if (loserIsBlack != blackMoves) {
            with(Steps.pass(number, 0));
        }
        return with(Steps.resign(number));
    }

    /** Puts the stones of an empty board on which black moves first, so that none is taken. */
    Scene board(int game, String... rows) {
        List<Integer> black = Diagram.order(rows, 'X');
        List<Integer> white = Diagram.order(rows, 'O');
        turns(game, black, true);
        if (!white.isEmpty()) {
            if (black.isEmpty()) {
                with(Steps.pass(game, 0));
            }
            turns(game, white, true);
        }
        return this;
    }

    /** Stones of one side, with passings of the other one between them. */
    private void turns(int game, List<Integer> points, boolean first) {
        boolean begins = first;
        for (int point : points) {
            if (!begins) {
                with(Steps.pass(game, 0));
            }
            begins = false;
            with(Steps.play(game, point, 0));
        }
    }

    /** Stones by turns; -1 is a passing. */
    Scene moves(int game, int... points) {
        for (int point : points) {
            with(point < 0 ? Steps.pass(game, 0) : Steps.play(game, point, 0));
        }
        return this;
    }

    /** What the call answers here. */
    long outcome(Step step) {
        return step.outcomeOn(made(1));
    }

    void answers(long want, Step step) {
        check.same(sentence + ": " + step.told(), want, outcome(step));
    }

    /** The call is not refused, whatever it answers. */
    void takes(Step step) {
        long outcome = outcome(step);
        check.same(sentence + ": " + step.told() + " is refused by " + Check.name(outcome), 0,
                outcome < Check.LEAST_ANSWER ? 1 : 0);
    }

    /** Each call is refused so, and behind it nothing has changed. */
    void refuses(long exception, Step... calls) {
        for (Step call : calls) {
            answers(exception, call);
            changesNothing(call);
        }
    }

    void changesNothing(Step call) {
        String change = changeBehind(call);
        check.same(sentence + ": behind " + call.told() + " the answer changed of " + change, 0, change.isEmpty() ? 0 : 1);
    }

    private String changeBehind(Step call) {
        if (looks == null) {
            lookAround();
        }
        for (int i = 0; i < looks.size(); i++) {
            AtariGarden x = made(1 + looks.get(i).size());
            call.outcomeOn(x);
            long[] now = outcomes(x, looks.get(i));
            for (int k = 0; k < now.length; k++) {
                if (now[k] != seen.get(i)[k]) {
                    return looks.get(i).get(k).told();
                }
            }
        }
        return "";
    }

    private void lookAround() {
        looks = Looks.at(countGames(), countNodes());
        seen = new ArrayList<>();
        for (List<Step> look : looks) {
            seen.add(outcomes(made(look.size()), look));
        }
    }

    private int countGames() {
        int games = 0;
        while (games < 16 && outcome(Steps.state(games)) >= 0) {
            games++;
        }
        return games;
    }

    private int countNodes() {
        int nodes = 0;
        while (nodes < 60 && outcome(Steps.node(nodes)) >= 0) {
            nodes++;
        }
        return nodes;
    }

    private static long[] outcomes(AtariGarden x, List<Step> look) {
        long[] outcomes = new long[look.size()];
        for (int i = 0; i < outcomes.length; i++) {
            outcomes[i] = look.get(i).outcomeOn(x);
        }
        return outcomes;
    }

    private void keep(Step step) {
        steps.add(step);
        looks = null;
    }

    /** A new club behind these calls, for so many more. */
    AtariGarden made(int more) {
        if (steps.size() + more > MOST_CALLS) {
            throw new AssertionError(sentence + ": nothing is promised about so many calls");
        }
        AtariGarden x = new AtariGarden();
        for (Step step : steps) {
            step.outcomeOn(x);
        }
        return x;
    }
}
